theorem dX10_pair_0 : decode cX10_pair 0 = .ok (.aload_n 0, 1) := by decide +kernel
theorem dX10_pair_1 : decode cX10_pair 1 = .ok (.aload_n 0, 1) := by decide +kernel
theorem dX10_pair_2 : decode cX10_pair 2 = .ok (.iload_n 1, 1) := by decide +kernel
theorem dX10_pair_3 : decode cX10_pair 3 = .ok (.invokevirtual 351, 3) := by decide +kernel
theorem dX10_pair_6 : decode cX10_pair 6 = .ok (.ifCond .eq 11, 3) := by decide +kernel
theorem dX10_pair_9 : decode cX10_pair 9 = .ok (.aload_n 0, 1) := by decide +kernel
theorem dX10_pair_10 : decode cX10_pair 10 = .ok (.iload_n 2, 1) := by decide +kernel
theorem dX10_pair_11 : decode cX10_pair 11 = .ok (.invokevirtual 351, 3) := by decide +kernel
theorem dX10_pair_14 : decode cX10_pair 14 = .ok (.ifCond .ne 7, 3) := by decide +kernel
theorem dX10_pair_17 : decode cX10_pair 17 = .ok (.iconst 1, 1) := by decide +kernel
theorem dX10_pair_18 : decode cX10_pair 18 = .ok (.goto 17, 3) := by decide +kernel
theorem dX10_pair_21 : decode cX10_pair 21 = .ok (.aload_n 0, 1) := by decide +kernel
theorem dX10_pair_22 : decode cX10_pair 22 = .ok (.getfield 341, 3) := by decide +kernel
theorem dX10_pair_25 : decode cX10_pair 25 = .ok (.bipush 40, 2) := by decide +kernel
theorem dX10_pair_27 : decode cX10_pair 27 = .ok (.if_icmp .ne 7, 3) := by decide +kernel
theorem dX10_pair_30 : decode cX10_pair 30 = .ok (.iconst 2, 1) := by decide +kernel
theorem dX10_pair_31 : decode cX10_pair 31 = .ok (.goto 4, 3) := by decide +kernel
theorem dX10_pair_34 : decode cX10_pair 34 = .ok (.iconst 0, 1) := by decide +kernel
theorem dX10_pair_35 : decode cX10_pair 35 = .ok (.putfield 148, 3) := by decide +kernel
theorem dX10_pair_38 : decode cX10_pair 38 = .ok (.aload_n 0, 1) := by decide +kernel
theorem dX10_pair_39 : decode cX10_pair 39 = .ok (.getfield 148, 3) := by decide +kernel
theorem dX10_pair_42 : decode cX10_pair 42 = .ok (.ifCond .le 5, 3) := by decide +kernel
theorem dX10_pair_45 : decode cX10_pair 45 = .ok (.iconst 0, 1) := by decide +kernel
theorem dX10_pair_46 : decode cX10_pair 46 = .ok (.ireturn, 1) := by decide +kernel
theorem dX10_pair_47 : decode cX10_pair 47 = .ok (.aload_n 0, 1) := by decide +kernel
theorem dX10_pair_48 : decode cX10_pair 48 = .ok (.invokevirtual 344, 3) := by decide +kernel
theorem dX10_pair_51 : decode cX10_pair 51 = .ok (.aload_n 0, 1) := by decide +kernel
theorem dX10_pair_52 : decode cX10_pair 52 = .ok (.dup, 1) := by decide +kernel
theorem dX10_pair_53 : decode cX10_pair 53 = .ok (.getfield 341, 3) := by decide +kernel
theorem dX10_pair_56 : decode cX10_pair 56 = .ok (.iconst 1, 1) := by decide +kernel
theorem dX10_pair_57 : decode cX10_pair 57 = .ok (.iadd, 1) := by decide +kernel
theorem dX10_pair_58 : decode cX10_pair 58 = .ok (.putfield 341, 3) := by decide +kernel
theorem dX10_pair_61 : decode cX10_pair 61 = .ok (.aload_n 0, 1) := by decide +kernel
theorem dX10_pair_62 : decode cX10_pair 62 = .ok (.bipush 16, 2) := by decide +kernel
theorem dX10_pair_64 : decode cX10_pair 64 = .ok (.iconst 0, 1) := by decide +kernel
theorem dX10_pair_65 : decode cX10_pair 65 = .ok (.iload_n 1, 1) := by decide +kernel
theorem dX10_pair_66 : decode cX10_pair 66 = .ok (.iload_n 2, 1) := by decide +kernel
theorem dX10_pair_67 : decode cX10_pair 67 = .ok (.invokevirtual 347, 3) := by decide +kernel
theorem dX10_pair_70 : decode cX10_pair 70 = .ok (.ireturn, 1) := by decide +kernel
set_option maxRecDepth 20000 in
set_option maxHeartbeats 4000000 in
theorem w_X10_pair {c : rX} {d : Nat} {S : rS} {K : Option Value → rS → Prop} (ho : rOK c) (p0 : Int32) (p1 : Int32) (h : rM c d eX10_isMade (.ref c.2.2.1 :: [.int p0]) S (fun v S1 => ∃ z2 : Int32, v = some (.int z2) ∧ ((z2 = 0 → (rG c eX10_pair (d + 1) (rQ c K) 35 [some (.ref c.2.2.1), some (.int p0), some (.int p1)] [.int 1, .ref c.2.2.1] S1)) ∧ (¬ z2 = 0 → (rM c d eX10_isMade (.ref c.2.2.1 :: [.int p1]) S1 (fun v S4 => ∃ z5 : Int32, v = some (.int z5) ∧ ((¬ z5 = 0 → ((¬ (S4.1 39 0) = 40 → (rG c eX10_pair (d + 1) (rQ c K) 35 [some (.ref c.2.2.1), some (.int p0), some (.int p1)] [.int 0, .ref c.2.2.1] S4)) ∧ ((S4.1 39 0) = 40 → (rG c eX10_pair (d + 1) (rQ c K) 35 [some (.ref c.2.2.1), some (.int p0), some (.int p1)] [.int 2, .ref c.2.2.1] S4)))) ∧ (z5 = 0 → (rG c eX10_pair (d + 1) (rQ c K) 35 [some (.ref c.2.2.1), some (.int p0), some (.int p1)] [.int 1, .ref c.2.2.1] S4))))))))) : rM c (d + 1) eX10_pair [.ref c.2.2.1, .int p0, .int p1] S K := by
  refine rM.of (by decide) (Nat.le_of_ble_eq_true rfl) ?_
  show rG c eX10_pair (d + 1) (rQ c K) 0 [some (.ref c.2.2.1), some (.int p0), some (.int p1)] [] S
  refine ag_aload_n dX10_pair_0 rfl (Or.inr ⟨_, rfl⟩) ?_
  refine ag_aload_n dX10_pair_1 rfl (Or.inr ⟨_, rfl⟩) ?_
  refine ag_iload_n dX10_pair_2 rfl ?_
  refine rr_call (as := [.int p0]) (rest := [.ref c.2.2.1]) ho dX10_pair_3 me_X10_isMade mi_X10_isMade lk_10_351 rfl rfl (Nat.le_of_ble_eq_true rfl) ?_
  refine rM.mono h ?_
  rintro v S1 ⟨z2, rfl, h⟩
  show rG _ _ _ _ _ _ [.int z2, .ref c.2.2.1] _
  refine ag_if_eq (tgt := 17) dX10_pair_6 rfl (fun hc3 => ?_) (fun hc3 => ?_)
  · have h := h.1 hc3
    refine ag_iconst (v := 1) dX10_pair_17 rfl ?_
    refine ag_goto (tgt := 35) dX10_pair_18 rfl ?_
    exact h
  · have h := h.2 hc3
    refine ag_aload_n dX10_pair_9 rfl (Or.inr ⟨_, rfl⟩) ?_
    refine ag_iload_n dX10_pair_10 rfl ?_
    refine rr_call (as := [.int p1]) (rest := [.ref c.2.2.1]) ho dX10_pair_11 me_X10_isMade mi_X10_isMade lk_10_351 rfl rfl (Nat.le_of_ble_eq_true rfl) ?_
    refine rM.mono h ?_
    rintro v S4 ⟨z5, rfl, h⟩
    show rG _ _ _ _ _ _ [.int z5, .ref c.2.2.1] _
    refine ag_if_ne (tgt := 21) dX10_pair_14 rfl (fun hc6 => ?_) (fun hc6 => ?_)
    · have h := h.1 hc6
      refine ag_aload_n dX10_pair_21 rfl (Or.inr ⟨_, rfl⟩) ?_
      refine rr_get (v := .int (S4.1 39 0)) ho dX10_pair_22 fw_10_341 rfl ?_
      refine ag_bipush (v := 40) dX10_pair_25 (by decide) ?_
      refine ag_icmp_ne (tgt := 34) dX10_pair_27 rfl (fun hc7 => ?_) (fun hc7 => ?_)
      · have h := h.1 hc7
        refine ag_iconst (v := 0) dX10_pair_34 rfl ?_
        exact h
      · have h := h.2 hc7
        refine ag_iconst (v := 2) dX10_pair_30 rfl ?_
        refine ag_goto (tgt := 35) dX10_pair_31 rfl ?_
        exact h
    · have h := h.2 hc6
      refine ag_iconst (v := 1) dX10_pair_17 rfl ?_
      refine ag_goto (tgt := 35) dX10_pair_18 rfl ?_
      exact h
set_option maxRecDepth 20000 in
set_option maxHeartbeats 4000000 in
theorem w_X10_pair_35 {c : rX} {d : Nat} {S : rS} {K : Option Value → rS → Prop} (ho : rOK c) (v1 : Int32) (v2 : Int32) (s0 : Int32) (h : (s0 ≤ 0 → (rM c d eX10_removeRun (.ref c.2.2.1 :: []) (rsi S 0 0 s0) (fun v S2 => v = none ∧ (rM c d eX10_make (.ref c.2.2.1 :: [.int 16, .int 0, .int v1, .int v2]) (rsi S2 39 0 ((S2.1 39 0) + 1)) (fun v S4 => ∃ z5 : Int32, v = some (.int z5) ∧ (K (some (.int z5)) S4)))))) ∧ (¬ s0 ≤ 0 → (K (some (.int 0)) (rsi S 0 0 s0)))) : rG c eX10_pair (d + 1) (rQ c K) 35 [some (.ref c.2.2.1), some (.int v1), some (.int v2)] [.int s0, .ref c.2.2.1] S := by
  refine rr_put (S2 := (rsi S 0 0 s0)) ho dX10_pair_35 pw_10_148 rfl (fun _ => ⟨rfl, rfl⟩) rfl ?_
  refine ag_aload_n dX10_pair_38 rfl (Or.inr ⟨_, rfl⟩) ?_
  refine rr_get (v := .int s0) ho dX10_pair_39 fw_10_148 rfl ?_
  refine ag_if_le (tgt := 47) dX10_pair_42 rfl (fun hc1 => ?_) (fun hc1 => ?_)
  · have h := h.1 hc1
    refine ag_aload_n dX10_pair_47 rfl (Or.inr ⟨_, rfl⟩) ?_
    refine rr_call (as := []) (rest := []) ho dX10_pair_48 me_X10_removeRun mi_X10_removeRun lk_10_344 rfl rfl (Nat.le_of_ble_eq_true rfl) ?_
    refine rM.mono h ?_
    rintro v S2 ⟨rfl, h⟩
    show rG _ _ _ _ _ _ [] _
    refine ag_aload_n dX10_pair_51 rfl (Or.inr ⟨_, rfl⟩) ?_
    refine ag_dup dX10_pair_52 rfl ?_
    refine rr_get (v := .int (S2.1 39 0)) ho dX10_pair_53 fw_10_341 rfl ?_
    refine ag_iconst (v := 1) dX10_pair_56 rfl ?_
    refine ag_iadd dX10_pair_57 rfl ?_
    refine rr_put (S2 := (rsi S2 39 0 ((S2.1 39 0) + 1))) ho dX10_pair_58 pw_10_341 rfl (fun _ => ⟨rfl, rfl⟩) rfl ?_
    refine ag_aload_n dX10_pair_61 rfl (Or.inr ⟨_, rfl⟩) ?_
    refine ag_bipush (v := 16) dX10_pair_62 (by decide) ?_
    refine ag_iconst (v := 0) dX10_pair_64 rfl ?_
    refine ag_iload_n dX10_pair_65 rfl ?_
    refine ag_iload_n dX10_pair_66 rfl ?_
    refine rr_call (as := [.int 16, .int 0, .int v1, .int v2]) (rest := []) ho dX10_pair_67 me_X10_make mi_X10_make lk_10_347 rfl rfl (Nat.le_of_ble_eq_true rfl) ?_
    refine rM.mono h ?_
    rintro v S4 ⟨z5, rfl, h⟩
    show rG _ _ _ _ _ _ [.int z5] _
    exact ag_ret (v := some (.int z5)) dX10_pair_70 ⟨_, rfl, rfl⟩ ⟨_, rfl, _, rfl, h⟩ rfl
  · have h := h.2 hc1
    refine ag_iconst (v := 0) dX10_pair_45 rfl ?_
    exact ag_ret (v := some (.int 0)) dX10_pair_46 ⟨_, rfl, rfl⟩ ⟨_, rfl, _, rfl, h⟩ rfl
theorem dX10_input_0 : decode cX10_input 0 = .ok (.aload_n 0, 1) := by decide +kernel
theorem dX10_input_1 : decode cX10_input 1 = .ok (.iload_n 1, 1) := by decide +kernel
theorem dX10_input_2 : decode cX10_input 2 = .ok (.ifCond .lt 8, 3) := by decide +kernel
theorem dX10_input_5 : decode cX10_input 5 = .ok (.iload_n 1, 1) := by decide +kernel
theorem dX10_input_6 : decode cX10_input 6 = .ok (.iconst 1, 1) := by decide +kernel
theorem dX10_input_7 : decode cX10_input 7 = .ok (.if_icmp .le 7, 3) := by decide +kernel
theorem dX10_input_10 : decode cX10_input 10 = .ok (.iconst 1, 1) := by decide +kernel
theorem dX10_input_11 : decode cX10_input 11 = .ok (.goto 16, 3) := by decide +kernel
theorem dX10_input_14 : decode cX10_input 14 = .ok (.aload_n 0, 1) := by decide +kernel
theorem dX10_input_15 : decode cX10_input 15 = .ok (.iload_n 2, 1) := by decide +kernel
theorem dX10_input_16 : decode cX10_input 16 = .ok (.invokevirtual 351, 3) := by decide +kernel
theorem dX10_input_19 : decode cX10_input 19 = .ok (.ifCond .eq 7, 3) := by decide +kernel
theorem dX10_input_22 : decode cX10_input 22 = .ok (.iconst 0, 1) := by decide +kernel
theorem dX10_input_23 : decode cX10_input 23 = .ok (.goto 4, 3) := by decide +kernel
theorem dX10_input_26 : decode cX10_input 26 = .ok (.iconst 2, 1) := by decide +kernel
theorem dX10_input_27 : decode cX10_input 27 = .ok (.putfield 148, 3) := by decide +kernel
theorem dX10_input_30 : decode cX10_input 30 = .ok (.aload_n 0, 1) := by decide +kernel
theorem dX10_input_31 : decode cX10_input 31 = .ok (.getfield 148, 3) := by decide +kernel
theorem dX10_input_34 : decode cX10_input 34 = .ok (.ifCond .ne 10, 3) := by decide +kernel
theorem dX10_input_37 : decode cX10_input 37 = .ok (.aload_n 0, 1) := by decide +kernel
theorem dX10_input_38 : decode cX10_input 38 = .ok (.getfield 118, 3) := by decide +kernel
theorem dX10_input_41 : decode cX10_input 41 = .ok (.iload_n 1, 1) := by decide +kernel
theorem dX10_input_42 : decode cX10_input 42 = .ok (.iload_n 2, 1) := by decide +kernel
theorem dX10_input_43 : decode cX10_input 43 = .ok (.iastore, 1) := by decide +kernel
theorem dX10_input_44 : decode cX10_input 44 = .ok (.return_, 1) := by decide +kernel
set_option maxRecDepth 20000 in
set_option maxHeartbeats 4000000 in
theorem w_X10_input {c : rX} {d : Nat} {S : rS} {K : Option Value → rS → Prop} (ho : rOK c) (p0 : Int32) (p1 : Int32) (h : (p0 < 0 → (rG c eX10_input (d + 1) (rQ c K) 27 [some (.ref c.2.2.1), some (.int p0), some (.int p1)] [.int 1, .ref c.2.2.1] S)) ∧ (¬ p0 < 0 → ((p0 ≤ 1 → (rM c d eX10_isMade (.ref c.2.2.1 :: [.int p1]) S (fun v S3 => ∃ z4 : Int32, v = some (.int z4) ∧ ((z4 = 0 → (rG c eX10_input (d + 1) (rQ c K) 27 [some (.ref c.2.2.1), some (.int p0), some (.int p1)] [.int 2, .ref c.2.2.1] S3)) ∧ (¬ z4 = 0 → (rG c eX10_input (d + 1) (rQ c K) 27 [some (.ref c.2.2.1), some (.int p0), some (.int p1)] [.int 0, .ref c.2.2.1] S3)))))) ∧ (¬ p0 ≤ 1 → (rG c eX10_input (d + 1) (rQ c K) 27 [some (.ref c.2.2.1), some (.int p0), some (.int p1)] [.int 1, .ref c.2.2.1] S))))) : rM c (d + 1) eX10_input [.ref c.2.2.1, .int p0, .int p1] S K := by
  refine rM.of (by decide) (Nat.le_of_ble_eq_true rfl) ?_
  show rG c eX10_input (d + 1) (rQ c K) 0 [some (.ref c.2.2.1), some (.int p0), some (.int p1)] [] S
  refine ag_aload_n dX10_input_0 rfl (Or.inr ⟨_, rfl⟩) ?_
  refine ag_iload_n dX10_input_1 rfl ?_
  refine ag_if_lt (tgt := 10) dX10_input_2 rfl (fun hc1 => ?_) (fun hc1 => ?_)
  · have h := h.1 hc1
    refine ag_iconst (v := 1) dX10_input_10 rfl ?_
    refine ag_goto (tgt := 27) dX10_input_11 rfl ?_
    exact h
  · have h := h.2 hc1
    refine ag_iload_n dX10_input_5 rfl ?_
    refine ag_iconst (v := 1) dX10_input_6 rfl ?_
    refine ag_icmp_le (tgt := 14) dX10_input_7 rfl (fun hc2 => ?_) (fun hc2 => ?_)
    · have h := h.1 hc2
      refine ag_aload_n dX10_input_14 rfl (Or.inr ⟨_, rfl⟩) ?_
      refine ag_iload_n dX10_input_15 rfl ?_
      refine rr_call (as := [.int p1]) (rest := [.ref c.2.2.1]) ho dX10_input_16 me_X10_isMade mi_X10_isMade lk_10_351 rfl rfl (Nat.le_of_ble_eq_true rfl) ?_
      refine rM.mono h ?_
      rintro v S3 ⟨z4, rfl, h⟩
      show rG _ _ _ _ _ _ [.int z4, .ref c.2.2.1] _
      refine ag_if_eq (tgt := 26) dX10_input_19 rfl (fun hc5 => ?_) (fun hc5 => ?_)
      · have h := h.1 hc5
        refine ag_iconst (v := 2) dX10_input_26 rfl ?_
        exact h
      · have h := h.2 hc5
        refine ag_iconst (v := 0) dX10_input_22 rfl ?_
        refine ag_goto (tgt := 27) dX10_input_23 rfl ?_
        exact h
    · have h := h.2 hc2
      refine ag_iconst (v := 1) dX10_input_10 rfl ?_
      refine ag_goto (tgt := 27) dX10_input_11 rfl ?_
      exact h
set_option maxRecDepth 20000 in
set_option maxHeartbeats 4000000 in
theorem w_X10_input_27 {c : rX} {d : Nat} {S : rS} {K : Option Value → rS → Prop} (ho : rOK c) (v1 : Int32) (v2 : Int32) (s0 : Int32) (h : (¬ s0 = 0 → (K none (rsi S 0 0 s0))) ∧ (s0 = 0 → (∃ j2 : Nat, am_ix v1 j2 2 ∧ (K none (rsi (rsi S 0 0 s0) 45 j2 v2))))) : rG c eX10_input (d + 1) (rQ c K) 27 [some (.ref c.2.2.1), some (.int v1), some (.int v2)] [.int s0, .ref c.2.2.1] S := by
  refine rr_put (S2 := (rsi S 0 0 s0)) ho dX10_input_27 pw_10_148 rfl (fun _ => ⟨rfl, rfl⟩) rfl ?_
  refine ag_aload_n dX10_input_30 rfl (Or.inr ⟨_, rfl⟩) ?_
  refine rr_get (v := .int s0) ho dX10_input_31 fw_10_148 rfl ?_
  refine ag_if_ne (tgt := 44) dX10_input_34 rfl (fun hc1 => ?_) (fun hc1 => ?_)
  · have h := h.1 hc1
    exact ag_ret (v := none) dX10_input_44 rfl ⟨_, rfl, _, rfl, h⟩ rfl
  · have h := h.2 hc1
    refine ag_aload_n dX10_input_37 rfl (Or.inr ⟨_, rfl⟩) ?_
    refine rr_get (v := .ref (c.2.2.1 + (33 + 1))) ho dX10_input_38 fw_10_118 rfl ?_
    refine ag_iload_n dX10_input_41 rfl ?_
    refine ag_iload_n dX10_input_42 rfl ?_
    obtain ⟨j2, hj3, h⟩ := h
    refine rr_is (S2 := (rsi (rsi S 0 0 s0) 45 j2 v2)) ho dX10_input_43 (k := 33) (f := 45) rfl hj3 rfl ?_
    exact ag_ret (v := none) dX10_input_44 rfl ⟨_, rfl, _, rfl, h⟩ rfl
theorem dX10_clear__0 : decode cX10_clear_ 0 = .ok (.aload_n 0, 1) := by decide +kernel
theorem dX10_clear__1 : decode cX10_clear_ 1 = .ok (.iconst 0, 1) := by decide +kernel
theorem dX10_clear__2 : decode cX10_clear_ 2 = .ok (.putfield 148, 3) := by decide +kernel
theorem dX10_clear__5 : decode cX10_clear_ 5 = .ok (.aload_n 0, 1) := by decide +kernel
theorem dX10_clear__6 : decode cX10_clear_ 6 = .ok (.iconst 0, 1) := by decide +kernel
theorem dX10_clear__7 : decode cX10_clear_ 7 = .ok (.putfield 341, 3) := by decide +kernel
theorem dX10_clear__10 : decode cX10_clear_ 10 = .ok (.aload_n 0, 1) := by decide +kernel
theorem dX10_clear__11 : decode cX10_clear_ 11 = .ok (.invokevirtual 344, 3) := by decide +kernel
theorem dX10_clear__14 : decode cX10_clear_ 14 = .ok (.aload_n 0, 1) := by decide +kernel
theorem dX10_clear__15 : decode cX10_clear_ 15 = .ok (.getfield 118, 3) := by decide +kernel
theorem dX10_clear__18 : decode cX10_clear_ 18 = .ok (.iconst 0, 1) := by decide +kernel
theorem dX10_clear__19 : decode cX10_clear_ 19 = .ok (.iconst 2, 1) := by decide +kernel
theorem dX10_clear__20 : decode cX10_clear_ 20 = .ok (.iastore, 1) := by decide +kernel
theorem dX10_clear__21 : decode cX10_clear_ 21 = .ok (.aload_n 0, 1) := by decide +kernel
theorem dX10_clear__22 : decode cX10_clear_ 22 = .ok (.getfield 118, 3) := by decide +kernel
theorem dX10_clear__25 : decode cX10_clear_ 25 = .ok (.iconst 1, 1) := by decide +kernel
theorem dX10_clear__26 : decode cX10_clear_ 26 = .ok (.iconst 2, 1) := by decide +kernel
theorem dX10_clear__27 : decode cX10_clear_ 27 = .ok (.iastore, 1) := by decide +kernel
theorem dX10_clear__28 : decode cX10_clear_ 28 = .ok (.return_, 1) := by decide +kernel
set_option maxRecDepth 20000 in
set_option maxHeartbeats 4000000 in
theorem w_X10_clear_ {c : rX} {d : Nat} {S : rS} {K : Option Value → rS → Prop} (ho : rOK c)  (h : rM c d eX10_removeRun (.ref c.2.2.1 :: []) (rsi (rsi S 0 0 0) 39 0 0) (fun v S1 => v = none ∧ (K none (rsi (rsi S1 45 0 2) 45 1 2)))) : rM c (d + 1) eX10_clear_ [.ref c.2.2.1] S K := by
  refine rM.of (by decide) (Nat.le_of_ble_eq_true rfl) ?_
  show rG c eX10_clear_ (d + 1) (rQ c K) 0 [some (.ref c.2.2.1)] [] S
  refine ag_aload_n dX10_clear__0 rfl (Or.inr ⟨_, rfl⟩) ?_
  refine ag_iconst (v := 0) dX10_clear__1 rfl ?_
  refine rr_put (S2 := (rsi S 0 0 0)) ho dX10_clear__2 pw_10_148 rfl (fun _ => ⟨rfl, rfl⟩) rfl ?_
  refine ag_aload_n dX10_clear__5 rfl (Or.inr ⟨_, rfl⟩) ?_
  refine ag_iconst (v := 0) dX10_clear__6 rfl ?_
  refine rr_put (S2 := (rsi (rsi S 0 0 0) 39 0 0)) ho dX10_clear__7 pw_10_341 rfl (fun _ => ⟨rfl, rfl⟩) rfl ?_
  refine ag_aload_n dX10_clear__10 rfl (Or.inr ⟨_, rfl⟩) ?_
  refine rr_call (as := []) (rest := []) ho dX10_clear__11 me_X10_removeRun mi_X10_removeRun lk_10_344 rfl rfl (Nat.le_of_ble_eq_true rfl) ?_
  refine rM.mono h ?_
  rintro v S1 ⟨rfl, h⟩
  show rG _ _ _ _ _ _ [] _
  refine ag_aload_n dX10_clear__14 rfl (Or.inr ⟨_, rfl⟩) ?_
  refine rr_get (v := .ref (c.2.2.1 + (33 + 1))) ho dX10_clear__15 fw_10_118 rfl ?_
  refine ag_iconst (v := 0) dX10_clear__18 rfl ?_
  refine ag_iconst (v := 2) dX10_clear__19 rfl ?_
  refine rr_is (S2 := (rsi S1 45 0 2)) ho dX10_clear__20 (k := 33) (f := 45) rfl ⟨by decide, by decide, by decide⟩ rfl ?_
  refine ag_aload_n dX10_clear__21 rfl (Or.inr ⟨_, rfl⟩) ?_
  refine rr_get (v := .ref (c.2.2.1 + (33 + 1))) ho dX10_clear__22 fw_10_118 rfl ?_
  refine ag_iconst (v := 1) dX10_clear__25 rfl ?_
  refine ag_iconst (v := 2) dX10_clear__26 rfl ?_
  refine rr_is (S2 := (rsi (rsi S1 45 0 2) 45 1 2)) ho dX10_clear__27 (k := 33) (f := 45) rfl ⟨by decide, by decide, by decide⟩ rfl ?_
  exact ag_ret (v := none) dX10_clear__28 rfl ⟨_, rfl, _, rfl, h⟩ rfl
theorem dX10_begin_0 : decode cX10_begin 0 = .ok (.aload_n 0, 1) := by decide +kernel
theorem dX10_begin_1 : decode cX10_begin 1 = .ok (.getfield 124, 3) := by decide +kernel
theorem dX10_begin_4 : decode cX10_begin 4 = .ok (.aload_n 0, 1) := by decide +kernel
theorem dX10_begin_5 : decode cX10_begin 5 = .ok (.getfield 354, 3) := by decide +kernel
theorem dX10_begin_8 : decode cX10_begin 8 = .ok (.iload_n 1, 1) := by decide +kernel
theorem dX10_begin_9 : decode cX10_begin 9 = .ok (.iastore, 1) := by decide +kernel
theorem dX10_begin_10 : decode cX10_begin 10 = .ok (.aload_n 0, 1) := by decide +kernel
theorem dX10_begin_11 : decode cX10_begin 11 = .ok (.getfield 127, 3) := by decide +kernel
theorem dX10_begin_14 : decode cX10_begin 14 = .ok (.aload_n 0, 1) := by decide +kernel
theorem dX10_begin_15 : decode cX10_begin 15 = .ok (.getfield 354, 3) := by decide +kernel
theorem dX10_begin_18 : decode cX10_begin 18 = .ok (.iconst 0, 1) := by decide +kernel
theorem dX10_begin_19 : decode cX10_begin 19 = .ok (.iastore, 1) := by decide +kernel
theorem dX10_begin_20 : decode cX10_begin 20 = .ok (.aload_n 0, 1) := by decide +kernel
theorem dX10_begin_21 : decode cX10_begin 21 = .ok (.getfield 130, 3) := by decide +kernel
theorem dX10_begin_24 : decode cX10_begin 24 = .ok (.aload_n 0, 1) := by decide +kernel
theorem dX10_begin_25 : decode cX10_begin 25 = .ok (.getfield 354, 3) := by decide +kernel
theorem dX10_begin_28 : decode cX10_begin 28 = .ok (.iload_n 2, 1) := by decide +kernel
theorem dX10_begin_29 : decode cX10_begin 29 = .ok (.iastore, 1) := by decide +kernel
theorem dX10_begin_30 : decode cX10_begin 30 = .ok (.aload_n 0, 1) := by decide +kernel
theorem dX10_begin_31 : decode cX10_begin 31 = .ok (.dup, 1) := by decide +kernel
theorem dX10_begin_32 : decode cX10_begin 32 = .ok (.getfield 354, 3) := by decide +kernel
theorem dX10_begin_35 : decode cX10_begin 35 = .ok (.iconst 1, 1) := by decide +kernel
theorem dX10_begin_36 : decode cX10_begin 36 = .ok (.iadd, 1) := by decide +kernel
theorem dX10_begin_37 : decode cX10_begin 37 = .ok (.putfield 354, 3) := by decide +kernel
theorem dX10_begin_40 : decode cX10_begin 40 = .ok (.return_, 1) := by decide +kernel
set_option maxRecDepth 20000 in
set_option maxHeartbeats 4000000 in
theorem w_X10_begin {c : rX} {d : Nat} {S : rS} {K : Option Value → rS → Prop} (ho : rOK c) (p0 : Int32) (p1 : Int32) (h : ∃ j1 : Nat, am_ix (S.1 49 0) j1 80 ∧ (∃ j3 : Nat, am_ix (S.1 49 0) j3 80 ∧ (∃ j5 : Nat, am_ix (S.1 49 0) j5 80 ∧ (K none (rsi (rsi (rsi (rsi S 51 j1 p0) 52 j3 0) 53 j5 p1) 49 0 ((S.1 49 0) + 1)))))) : rM c d eX10_begin [.ref c.2.2.1, .int p0, .int p1] S K := by
  refine rM.of (by decide) (Nat.le_of_ble_eq_true rfl) ?_
  show rG c eX10_begin d (rQ c K) 0 [some (.ref c.2.2.1), some (.int p0), some (.int p1)] [] S
  refine ag_aload_n dX10_begin_0 rfl (Or.inr ⟨_, rfl⟩) ?_
  refine rr_get (v := .ref (c.2.2.1 + (34 + 1))) ho dX10_begin_1 fw_10_124 rfl ?_
  refine ag_aload_n dX10_begin_4 rfl (Or.inr ⟨_, rfl⟩) ?_
  refine rr_get (v := .int (S.1 49 0)) ho dX10_begin_5 fw_10_354 rfl ?_
  refine ag_iload_n dX10_begin_8 rfl ?_
  obtain ⟨j1, hj2, h⟩ := h
  refine rr_is (S2 := (rsi S 51 j1 p0)) ho dX10_begin_9 (k := 34) (f := 51) rfl hj2 rfl ?_
  refine ag_aload_n dX10_begin_10 rfl (Or.inr ⟨_, rfl⟩) ?_
  refine rr_get (v := .ref (c.2.2.1 + (35 + 1))) ho dX10_begin_11 fw_10_127 rfl ?_
  refine ag_aload_n dX10_begin_14 rfl (Or.inr ⟨_, rfl⟩) ?_
  refine rr_get (v := .int (S.1 49 0)) ho dX10_begin_15 fw_10_354 rfl ?_
  refine ag_iconst (v := 0) dX10_begin_18 rfl ?_
  obtain ⟨j3, hj4, h⟩ := h
  refine rr_is (S2 := (rsi (rsi S 51 j1 p0) 52 j3 0)) ho dX10_begin_19 (k := 35) (f := 52) rfl hj4 rfl ?_
  refine ag_aload_n dX10_begin_20 rfl (Or.inr ⟨_, rfl⟩) ?_
  refine rr_get (v := .ref (c.2.2.1 + (36 + 1))) ho dX10_begin_21 fw_10_130 rfl ?_
  refine ag_aload_n dX10_begin_24 rfl (Or.inr ⟨_, rfl⟩) ?_
  refine rr_get (v := .int (S.1 49 0)) ho dX10_begin_25 fw_10_354 rfl ?_
  refine ag_iload_n dX10_begin_28 rfl ?_
  obtain ⟨j5, hj6, h⟩ := h
  refine rr_is (S2 := (rsi (rsi (rsi S 51 j1 p0) 52 j3 0) 53 j5 p1)) ho dX10_begin_29 (k := 36) (f := 53) rfl hj6 rfl ?_
  refine ag_aload_n dX10_begin_30 rfl (Or.inr ⟨_, rfl⟩) ?_
  refine ag_dup dX10_begin_31 rfl ?_
  refine rr_get (v := .int (S.1 49 0)) ho dX10_begin_32 fw_10_354 rfl ?_
  refine ag_iconst (v := 1) dX10_begin_35 rfl ?_
  refine ag_iadd dX10_begin_36 rfl ?_
  refine rr_put (S2 := (rsi (rsi (rsi (rsi S 51 j1 p0) 52 j3 0) 53 j5 p1) 49 0 ((S.1 49 0) + 1))) ho dX10_begin_37 pw_10_354 rfl (fun _ => ⟨rfl, rfl⟩) rfl ?_
  exact ag_ret (v := none) dX10_begin_40 rfl ⟨_, rfl, _, rfl, h⟩ rfl
theorem dX10_truth_0 : decode cX10_truth 0 = .ok (.iload_n 0, 1) := by decide +kernel
theorem dX10_truth_1 : decode cX10_truth 1 = .ok (.ifCond .eq 7, 3) := by decide +kernel
theorem dX10_truth_4 : decode cX10_truth 4 = .ok (.iconst 0, 1) := by decide +kernel
theorem dX10_truth_5 : decode cX10_truth 5 = .ok (.goto 4, 3) := by decide +kernel
theorem dX10_truth_8 : decode cX10_truth 8 = .ok (.iconst 1, 1) := by decide +kernel
theorem dX10_truth_9 : decode cX10_truth 9 = .ok (.ireturn, 1) := by decide +kernel
set_option maxRecDepth 20000 in
set_option maxHeartbeats 4000000 in
theorem w_X10_truth {c : rX} {d : Nat} {S : rS} {K : Option Value → rS → Prop} (ho : rOK c) (p0 : Int32) (h : (p0 = 0 → (K (some (.int 1)) S)) ∧ (¬ p0 = 0 → (K (some (.int 0)) S))) : rM c d eX10_truth [.int p0] S K := by
  refine rM.of (by decide) (Nat.le_of_ble_eq_true rfl) ?_
  show rG c eX10_truth d (rQ c K) 0 [some (.int p0)] [] S
  refine ag_iload_n dX10_truth_0 rfl ?_
  refine ag_if_eq (tgt := 8) dX10_truth_1 rfl (fun hc1 => ?_) (fun hc1 => ?_)
  · have h := h.1 hc1
    refine ag_iconst (v := 1) dX10_truth_8 rfl ?_
    exact ag_ret (v := some (.int 1)) dX10_truth_9 ⟨_, rfl, rfl⟩ ⟨_, rfl, _, rfl, h⟩ rfl
  · have h := h.2 hc1
    refine ag_iconst (v := 0) dX10_truth_4 rfl ?_
    refine ag_goto (tgt := 9) dX10_truth_5 rfl ?_
    exact ag_ret (v := some (.int 0)) dX10_truth_9 ⟨_, rfl, rfl⟩ ⟨_, rfl, _, rfl, h⟩ rfl
theorem dX10_end_0 : decode cX10_end 0 = .ok (.aload_n 0, 1) := by decide +kernel
theorem dX10_end_1 : decode cX10_end 1 = .ok (.iload_n 1, 1) := by decide +kernel
theorem dX10_end_2 : decode cX10_end 2 = .ok (.putfield 357, 3) := by decide +kernel
theorem dX10_end_5 : decode cX10_end 5 = .ok (.aload_n 0, 1) := by decide +kernel
theorem dX10_end_6 : decode cX10_end 6 = .ok (.dup, 1) := by decide +kernel
theorem dX10_end_7 : decode cX10_end 7 = .ok (.getfield 354, 3) := by decide +kernel
theorem dX10_end_10 : decode cX10_end 10 = .ok (.iconst 1, 1) := by decide +kernel
theorem dX10_end_11 : decode cX10_end 11 = .ok (.isub, 1) := by decide +kernel
theorem dX10_end_12 : decode cX10_end 12 = .ok (.putfield 354, 3) := by decide +kernel
theorem dX10_end_15 : decode cX10_end 15 = .ok (.return_, 1) := by decide +kernel
set_option maxRecDepth 20000 in
set_option maxHeartbeats 4000000 in
theorem w_X10_end {c : rX} {d : Nat} {S : rS} {K : Option Value → rS → Prop} (ho : rOK c) (p0 : Int32) (h : K none (rsi (rsi S 50 0 p0) 49 0 ((S.1 49 0) - 1))) : rM c d eX10_end [.ref c.2.2.1, .int p0] S K := by
  refine rM.of (by decide) (Nat.le_of_ble_eq_true rfl) ?_
  show rG c eX10_end d (rQ c K) 0 [some (.ref c.2.2.1), some (.int p0)] [] S
  refine ag_aload_n dX10_end_0 rfl (Or.inr ⟨_, rfl⟩) ?_
  refine ag_iload_n dX10_end_1 rfl ?_
  refine rr_put (S2 := (rsi S 50 0 p0)) ho dX10_end_2 pw_10_357 rfl (fun _ => ⟨rfl, rfl⟩) rfl ?_
  refine ag_aload_n dX10_end_5 rfl (Or.inr ⟨_, rfl⟩) ?_
  refine ag_dup dX10_end_6 rfl ?_
  refine rr_get (v := .int (S.1 49 0)) ho dX10_end_7 fw_10_354 rfl ?_
  refine ag_iconst (v := 1) dX10_end_10 rfl ?_
  refine ag_isub dX10_end_11 rfl ?_
  refine rr_put (S2 := (rsi (rsi S 50 0 p0) 49 0 ((S.1 49 0) - 1))) ho dX10_end_12 pw_10_354 rfl (fun _ => ⟨rfl, rfl⟩) rfl ?_
  exact ag_ret (v := none) dX10_end_15 rfl ⟨_, rfl, _, rfl, h⟩ rfl
theorem dX10_stop_0 : decode cX10_stop 0 = .ok (.aload_n 0, 1) := by decide +kernel
theorem dX10_stop_1 : decode cX10_stop 1 = .ok (.iload_n 1, 1) := by decide +kernel
theorem dX10_stop_2 : decode cX10_stop 2 = .ok (.putfield 360, 3) := by decide +kernel
theorem dX10_stop_5 : decode cX10_stop 5 = .ok (.return_, 1) := by decide +kernel
set_option maxRecDepth 20000 in
set_option maxHeartbeats 4000000 in
theorem w_X10_stop {c : rX} {d : Nat} {S : rS} {K : Option Value → rS → Prop} (ho : rOK c) (p0 : Int32) (h : K none (rsi S 48 0 p0)) : rM c d eX10_stop [.ref c.2.2.1, .int p0] S K := by
  refine rM.of (by decide) (Nat.le_of_ble_eq_true rfl) ?_
  show rG c eX10_stop d (rQ c K) 0 [some (.ref c.2.2.1), some (.int p0)] [] S
  refine ag_aload_n dX10_stop_0 rfl (Or.inr ⟨_, rfl⟩) ?_
  refine ag_iload_n dX10_stop_1 rfl ?_
  refine rr_put (S2 := (rsi S 48 0 p0)) ho dX10_stop_2 pw_10_360 rfl (fun _ => ⟨rfl, rfl⟩) rfl ?_
  exact ag_ret (v := none) dX10_stop_5 rfl ⟨_, rfl, _, rfl, h⟩ rfl
theorem dX10_goOn_0 : decode cX10_goOn 0 = .ok (.aload_n 0, 1) := by decide +kernel
theorem dX10_goOn_1 : decode cX10_goOn 1 = .ok (.getfield 354, 3) := by decide +kernel
theorem dX10_goOn_4 : decode cX10_goOn 4 = .ok (.iconst 1, 1) := by decide +kernel
theorem dX10_goOn_5 : decode cX10_goOn 5 = .ok (.isub, 1) := by decide +kernel
theorem dX10_goOn_6 : decode cX10_goOn 6 = .ok (.istore_n 1, 1) := by decide +kernel
theorem dX10_goOn_7 : decode cX10_goOn 7 = .ok (.aload_n 0, 1) := by decide +kernel
theorem dX10_goOn_8 : decode cX10_goOn 8 = .ok (.getfield 124, 3) := by decide +kernel
theorem dX10_goOn_11 : decode cX10_goOn 11 = .ok (.iload_n 1, 1) := by decide +kernel
theorem dX10_goOn_12 : decode cX10_goOn 12 = .ok (.iaload, 1) := by decide +kernel
theorem dX10_goOn_13 : decode cX10_goOn 13 = .ok (.istore_n 2, 1) := by decide +kernel
theorem dX10_goOn_14 : decode cX10_goOn 14 = .ok (.aload_n 0, 1) := by decide +kernel
theorem dX10_goOn_15 : decode cX10_goOn 15 = .ok (.getfield 127, 3) := by decide +kernel
theorem dX10_goOn_18 : decode cX10_goOn 18 = .ok (.iload_n 1, 1) := by decide +kernel
theorem dX10_goOn_19 : decode cX10_goOn 19 = .ok (.iaload, 1) := by decide +kernel
theorem dX10_goOn_20 : decode cX10_goOn 20 = .ok (.istore_n 3, 1) := by decide +kernel
theorem dX10_goOn_21 : decode cX10_goOn 21 = .ok (.aload_n 0, 1) := by decide +kernel
theorem dX10_goOn_22 : decode cX10_goOn 22 = .ok (.getfield 127, 3) := by decide +kernel
theorem dX10_goOn_25 : decode cX10_goOn 25 = .ok (.iload_n 1, 1) := by decide +kernel
theorem dX10_goOn_26 : decode cX10_goOn 26 = .ok (.dup2, 1) := by decide +kernel
theorem dX10_goOn_27 : decode cX10_goOn 27 = .ok (.iaload, 1) := by decide +kernel
theorem dX10_goOn_28 : decode cX10_goOn 28 = .ok (.iconst 1, 1) := by decide +kernel
theorem dX10_goOn_29 : decode cX10_goOn 29 = .ok (.iadd, 1) := by decide +kernel
theorem dX10_goOn_30 : decode cX10_goOn 30 = .ok (.iastore, 1) := by decide +kernel
theorem dX10_goOn_31 : decode cX10_goOn 31 = .ok (.aload_n 0, 1) := by decide +kernel
theorem dX10_goOn_32 : decode cX10_goOn 32 = .ok (.getfield 130, 3) := by decide +kernel
theorem dX10_goOn_35 : decode cX10_goOn 35 = .ok (.iload_n 1, 1) := by decide +kernel
theorem dX10_goOn_36 : decode cX10_goOn 36 = .ok (.iaload, 1) := by decide +kernel
theorem dX10_goOn_37 : decode cX10_goOn 37 = .ok (.istore 4, 2) := by decide +kernel
theorem dX10_goOn_39 : decode cX10_goOn 39 = .ok (.iload_n 3, 1) := by decide +kernel
theorem dX10_goOn_40 : decode cX10_goOn 40 = .ok (.iconst 1, 1) := by decide +kernel
theorem dX10_goOn_41 : decode cX10_goOn 41 = .ok (.if_icmp .ne 13, 3) := by decide +kernel
theorem dX10_goOn_44 : decode cX10_goOn 44 = .ok (.aload_n 0, 1) := by decide +kernel
theorem dX10_goOn_45 : decode cX10_goOn 45 = .ok (.getfield 133, 3) := by decide +kernel
theorem dX10_goOn_48 : decode cX10_goOn 48 = .ok (.iload_n 1, 1) := by decide +kernel
theorem dX10_goOn_49 : decode cX10_goOn 49 = .ok (.aload_n 0, 1) := by decide +kernel
theorem dX10_goOn_50 : decode cX10_goOn 50 = .ok (.getfield 357, 3) := by decide +kernel
theorem dX10_goOn_53 : decode cX10_goOn 53 = .ok (.iastore, 1) := by decide +kernel
theorem dX10_goOn_54 : decode cX10_goOn 54 = .ok (.aload_n 0, 1) := by decide +kernel
theorem dX10_goOn_55 : decode cX10_goOn 55 = .ok (.getfield 20, 3) := by decide +kernel
theorem dX10_goOn_58 : decode cX10_goOn 58 = .ok (.iload_n 2, 1) := by decide +kernel
theorem dX10_goOn_59 : decode cX10_goOn 59 = .ok (.iaload, 1) := by decide +kernel
theorem dX10_goOn_60 : decode cX10_goOn 60 = .ok (.iconst (-1), 1) := by decide +kernel
theorem dX10_goOn_61 : decode cX10_goOn 61 = .ok (.if_icmp .ne 11, 3) := by decide +kernel
theorem dX10_goOn_64 : decode cX10_goOn 64 = .ok (.aload_n 0, 1) := by decide +kernel
theorem dX10_goOn_65 : decode cX10_goOn 65 = .ok (.iload_n 2, 1) := by decide +kernel
theorem dX10_goOn_66 : decode cX10_goOn 66 = .ok (.iload 4, 2) := by decide +kernel
theorem dX10_goOn_68 : decode cX10_goOn 68 = .ok (.invokevirtual 363, 3) := by decide +kernel
theorem dX10_goOn_71 : decode cX10_goOn 71 = .ok (.return_, 1) := by decide +kernel
theorem dX10_goOn_72 : decode cX10_goOn 72 = .ok (.iload_n 3, 1) := by decide +kernel
theorem dX10_goOn_73 : decode cX10_goOn 73 = .ok (.ifCond .ne 16, 3) := by decide +kernel
theorem dX10_goOn_76 : decode cX10_goOn 76 = .ok (.aload_n 0, 1) := by decide +kernel
theorem dX10_goOn_77 : decode cX10_goOn 77 = .ok (.aload_n 0, 1) := by decide +kernel
theorem dX10_goOn_78 : decode cX10_goOn 78 = .ok (.getfield 20, 3) := by decide +kernel
theorem dX10_goOn_81 : decode cX10_goOn 81 = .ok (.iload_n 2, 1) := by decide +kernel
theorem dX10_goOn_82 : decode cX10_goOn 82 = .ok (.iaload, 1) := by decide +kernel
theorem dX10_goOn_83 : decode cX10_goOn 83 = .ok (.iload 4, 2) := by decide +kernel
theorem dX10_goOn_85 : decode cX10_goOn 85 = .ok (.invokevirtual 366, 3) := by decide +kernel
theorem dX10_goOn_88 : decode cX10_goOn 88 = .ok (.return_, 1) := by decide +kernel
theorem dX10_goOn_89 : decode cX10_goOn 89 = .ok (.aload_n 0, 1) := by decide +kernel
theorem dX10_goOn_90 : decode cX10_goOn 90 = .ok (.getfield 17, 3) := by decide +kernel
theorem dX10_goOn_93 : decode cX10_goOn 93 = .ok (.iload_n 2, 1) := by decide +kernel
theorem dX10_goOn_94 : decode cX10_goOn 94 = .ok (.iaload, 1) := by decide +kernel
theorem dX10_goOn_95 : decode cX10_goOn 95 = .ok (.istore 5, 2) := by decide +kernel
theorem dX10_goOn_97 : decode cX10_goOn 97 = .ok (.iload 5, 2) := by decide +kernel
theorem dX10_goOn_99 : decode cX10_goOn 99 = .ok (.bipush 71, 2) := by decide +kernel
theorem dX10_goOn_101 : decode cX10_goOn 101 = .ok (.if_icmp .lt 21, 3) := by decide +kernel
theorem dX10_goOn_104 : decode cX10_goOn 104 = .ok (.iload 5, 2) := by decide +kernel
theorem dX10_goOn_106 : decode cX10_goOn 106 = .ok (.bipush 73, 2) := by decide +kernel
theorem dX10_goOn_108 : decode cX10_goOn 108 = .ok (.if_icmp .gt 14, 3) := by decide +kernel
theorem dX10_goOn_111 : decode cX10_goOn 111 = .ok (.aload_n 0, 1) := by decide +kernel
theorem dX10_goOn_112 : decode cX10_goOn 112 = .ok (.iload_n 2, 1) := by decide +kernel
theorem dX10_goOn_113 : decode cX10_goOn 113 = .ok (.iload_n 3, 1) := by decide +kernel
theorem dX10_goOn_114 : decode cX10_goOn 114 = .ok (.iload 4, 2) := by decide +kernel
theorem dX10_goOn_116 : decode cX10_goOn 116 = .ok (.invokevirtual 369, 3) := by decide +kernel
theorem dX10_goOn_119 : decode cX10_goOn 119 = .ok (.goto 138, 3) := by decide +kernel
theorem dX10_goOn_122 : decode cX10_goOn 122 = .ok (.aload_n 0, 1) := by decide +kernel
theorem dX10_goOn_123 : decode cX10_goOn 123 = .ok (.getfield 23, 3) := by decide +kernel
theorem dX10_goOn_126 : decode cX10_goOn 126 = .ok (.iload_n 2, 1) := by decide +kernel
theorem dX10_goOn_127 : decode cX10_goOn 127 = .ok (.iaload, 1) := by decide +kernel
theorem dX10_goOn_128 : decode cX10_goOn 128 = .ok (.iconst (-1), 1) := by decide +kernel
theorem dX10_goOn_129 : decode cX10_goOn 129 = .ok (.if_icmp .ne 15, 3) := by decide +kernel
theorem dX10_goOn_132 : decode cX10_goOn 132 = .ok (.aload_n 0, 1) := by decide +kernel
theorem dX10_goOn_133 : decode cX10_goOn 133 = .ok (.iload_n 2, 1) := by decide +kernel
theorem dX10_goOn_134 : decode cX10_goOn 134 = .ok (.aload_n 0, 1) := by decide +kernel
theorem dX10_goOn_135 : decode cX10_goOn 135 = .ok (.getfield 357, 3) := by decide +kernel
theorem dX10_goOn_138 : decode cX10_goOn 138 = .ok (.invokevirtual 372, 3) := by decide +kernel
theorem dX10_goOn_141 : decode cX10_goOn 141 = .ok (.goto 116, 3) := by decide +kernel
theorem dX10_goOn_144 : decode cX10_goOn 144 = .ok (.iload 5, 2) := by decide +kernel
theorem dX10_goOn_146 : decode cX10_goOn 146 = .ok (.bipush 63, 2) := by decide +kernel
theorem dX10_goOn_148 : decode cX10_goOn 148 = .ok (.if_icmp .eq 17, 3) := by decide +kernel
theorem dX10_goOn_151 : decode cX10_goOn 151 = .ok (.iload 5, 2) := by decide +kernel
theorem dX10_goOn_153 : decode cX10_goOn 153 = .ok (.bipush 38, 2) := by decide +kernel
theorem dX10_goOn_155 : decode cX10_goOn 155 = .ok (.if_icmp .eq 10, 3) := by decide +kernel
theorem dX10_goOn_158 : decode cX10_goOn 158 = .ok (.iload 5, 2) := by decide +kernel
theorem dX10_goOn_160 : decode cX10_goOn 160 = .ok (.bipush 124, 2) := by decide +kernel
theorem dX10_goOn_162 : decode cX10_goOn 162 = .ok (.if_icmp .ne 14, 3) := by decide +kernel
theorem dX10_goOn_165 : decode cX10_goOn 165 = .ok (.aload_n 0, 1) := by decide +kernel
theorem dX10_goOn_166 : decode cX10_goOn 166 = .ok (.iload_n 2, 1) := by decide +kernel
theorem dX10_goOn_167 : decode cX10_goOn 167 = .ok (.iload_n 3, 1) := by decide +kernel
theorem dX10_goOn_168 : decode cX10_goOn 168 = .ok (.iload 4, 2) := by decide +kernel
theorem dX10_goOn_170 : decode cX10_goOn 170 = .ok (.invokevirtual 375, 3) := by decide +kernel
theorem dX10_goOn_173 : decode cX10_goOn 173 = .ok (.goto 84, 3) := by decide +kernel
theorem dX10_goOn_176 : decode cX10_goOn 176 = .ok (.iload_n 3, 1) := by decide +kernel
theorem dX10_goOn_177 : decode cX10_goOn 177 = .ok (.iconst 1, 1) := by decide +kernel
theorem dX10_goOn_178 : decode cX10_goOn 178 = .ok (.if_icmp .ne 46, 3) := by decide +kernel
theorem dX10_goOn_181 : decode cX10_goOn 181 = .ok (.iload 5, 2) := by decide +kernel
theorem dX10_goOn_183 : decode cX10_goOn 183 = .ok (.bipush 58, 2) := by decide +kernel
theorem dX10_goOn_185 : decode cX10_goOn 185 = .ok (.if_icmp .ne 24, 3) := by decide +kernel
theorem dX10_goOn_188 : decode cX10_goOn 188 = .ok (.aload_n 0, 1) := by decide +kernel
theorem dX10_goOn_189 : decode cX10_goOn 189 = .ok (.getfield 136, 3) := by decide +kernel
theorem dX10_goOn_192 : decode cX10_goOn 192 = .ok (.bipush 8, 2) := by decide +kernel
theorem dX10_goOn_194 : decode cX10_goOn 194 = .ok (.iload 4, 2) := by decide +kernel
theorem dX10_goOn_196 : decode cX10_goOn 196 = .ok (.imul, 1) := by decide +kernel
theorem dX10_goOn_197 : decode cX10_goOn 197 = .ok (.aload_n 0, 1) := by decide +kernel
theorem dX10_goOn_198 : decode cX10_goOn 198 = .ok (.getfield 29, 3) := by decide +kernel
theorem dX10_goOn_201 : decode cX10_goOn 201 = .ok (.iload_n 2, 1) := by decide +kernel
theorem dX10_goOn_202 : decode cX10_goOn 202 = .ok (.iaload, 1) := by decide +kernel
theorem dX10_goOn_203 : decode cX10_goOn 203 = .ok (.iadd, 1) := by decide +kernel
theorem dX10_goOn_204 : decode cX10_goOn 204 = .ok (.aload_n 0, 1) := by decide +kernel
theorem dX10_goOn_205 : decode cX10_goOn 205 = .ok (.getfield 357, 3) := by decide +kernel
theorem dX10_goOn_208 : decode cX10_goOn 208 = .ok (.iastore, 1) := by decide +kernel
theorem dX10_goOn_209 : decode cX10_goOn 209 = .ok (.aload_n 0, 1) := by decide +kernel
theorem dX10_goOn_210 : decode cX10_goOn 210 = .ok (.aload_n 0, 1) := by decide +kernel
theorem dX10_goOn_211 : decode cX10_goOn 211 = .ok (.getfield 23, 3) := by decide +kernel
theorem dX10_goOn_214 : decode cX10_goOn 214 = .ok (.iload_n 2, 1) := by decide +kernel
theorem dX10_goOn_215 : decode cX10_goOn 215 = .ok (.iaload, 1) := by decide +kernel
theorem dX10_goOn_216 : decode cX10_goOn 216 = .ok (.iload 4, 2) := by decide +kernel
theorem dX10_goOn_218 : decode cX10_goOn 218 = .ok (.invokevirtual 366, 3) := by decide +kernel
theorem dX10_goOn_221 : decode cX10_goOn 221 = .ok (.goto 36, 3) := by decide +kernel
theorem dX10_goOn_224 : decode cX10_goOn 224 = .ok (.iload 5, 2) := by decide +kernel
theorem dX10_goOn_226 : decode cX10_goOn 226 = .ok (.bipush 58, 2) := by decide +kernel
theorem dX10_goOn_228 : decode cX10_goOn 228 = .ok (.if_icmp .ne 14, 3) := by decide +kernel
theorem dX10_goOn_231 : decode cX10_goOn 231 = .ok (.aload_n 0, 1) := by decide +kernel
theorem dX10_goOn_232 : decode cX10_goOn 232 = .ok (.aload_n 0, 1) := by decide +kernel
theorem dX10_goOn_233 : decode cX10_goOn 233 = .ok (.getfield 357, 3) := by decide +kernel
theorem dX10_goOn_236 : decode cX10_goOn 236 = .ok (.invokevirtual 378, 3) := by decide +kernel
theorem dX10_goOn_239 : decode cX10_goOn 239 = .ok (.goto 18, 3) := by decide +kernel
theorem dX10_goOn_242 : decode cX10_goOn 242 = .ok (.aload_n 0, 1) := by decide +kernel
theorem dX10_goOn_243 : decode cX10_goOn 243 = .ok (.iload_n 2, 1) := by decide +kernel
theorem dX10_goOn_244 : decode cX10_goOn 244 = .ok (.aload_n 0, 1) := by decide +kernel
theorem dX10_goOn_245 : decode cX10_goOn 245 = .ok (.getfield 133, 3) := by decide +kernel
theorem dX10_goOn_248 : decode cX10_goOn 248 = .ok (.iload_n 1, 1) := by decide +kernel
theorem dX10_goOn_249 : decode cX10_goOn 249 = .ok (.iaload, 1) := by decide +kernel
theorem dX10_goOn_250 : decode cX10_goOn 250 = .ok (.aload_n 0, 1) := by decide +kernel
theorem dX10_goOn_251 : decode cX10_goOn 251 = .ok (.getfield 357, 3) := by decide +kernel
theorem dX10_goOn_254 : decode cX10_goOn 254 = .ok (.invokevirtual 381, 3) := by decide +kernel
theorem dX10_goOn_257 : decode cX10_goOn 257 = .ok (.return_, 1) := by decide +kernel
set_option maxRecDepth 20000 in
set_option maxHeartbeats 4000000 in
theorem w_X10_goOn {c : rX} {d : Nat} {S : rS} {K : Option Value → rS → Prop} (ho : rOK c)  (h : ∃ j1 : Nat, am_ix ((S.1 49 0) - 1) j1 80 ∧ (∃ j3 : Nat, am_ix ((S.1 49 0) - 1) j3 80 ∧ (∃ j5 : Nat, am_ix ((S.1 49 0) - 1) j5 80 ∧ (∃ j7 : Nat, am_ix ((S.1 49 0) - 1) j7 80 ∧ (∃ j9 : Nat, am_ix ((S.1 49 0) - 1) j9 80 ∧ ((¬ (S.1 52 j3) = 1 → (rG c eX10_goOn (d + 1) (rQ c K) 54 [some (.ref c.2.2.1), some (.int ((S.1 49 0) - 1)), some (.int (S.1 51 j1)), some (.int (S.1 52 j3)), some (.int (S.1 53 j9)), none] [] (rsi S 52 j7 ((S.1 52 j5) + 1)))) ∧ ((S.1 52 j3) = 1 → (∃ j12 : Nat, am_ix ((S.1 49 0) - 1) j12 80 ∧ (rG c eX10_goOn (d + 1) (rQ c K) 54 [some (.ref c.2.2.1), some (.int ((S.1 49 0) - 1)), some (.int (S.1 51 j1)), some (.int (S.1 52 j3)), some (.int (S.1 53 j9)), none] [] (rsi (rsi S 52 j7 ((S.1 52 j5) + 1)) 54 j12 (S.1 50 0))))))))))) : rM c (d + 1) eX10_goOn [.ref c.2.2.1] S K := by
  refine rM.of (by decide) (Nat.le_of_ble_eq_true rfl) ?_
  show rG c eX10_goOn (d + 1) (rQ c K) 0 [some (.ref c.2.2.1), none, none, none, none, none] [] S
  refine ag_aload_n dX10_goOn_0 rfl (Or.inr ⟨_, rfl⟩) ?_
  refine rr_get (v := .int (S.1 49 0)) ho dX10_goOn_1 fw_10_354 rfl ?_
  refine ag_iconst (v := 1) dX10_goOn_4 rfl ?_
  refine ag_isub dX10_goOn_5 rfl ?_
  refine ag_istore_n (lv2 := [some (.ref c.2.2.1), some (.int ((S.1 49 0) - 1)), none, none, none, none]) dX10_goOn_6 (Nat.le_of_ble_eq_true rfl) rfl ?_
  refine ag_aload_n dX10_goOn_7 rfl (Or.inr ⟨_, rfl⟩) ?_
  refine rr_get (v := .ref (c.2.2.1 + (34 + 1))) ho dX10_goOn_8 fw_10_124 rfl ?_
  refine ag_iload_n dX10_goOn_11 rfl ?_
  obtain ⟨j1, hj2, h⟩ := h
  refine rr_il (v := S.1 51 j1) ho dX10_goOn_12 (k := 34) (f := 51) rfl hj2 rfl ?_
  refine ag_istore_n (lv2 := [some (.ref c.2.2.1), some (.int ((S.1 49 0) - 1)), some (.int (S.1 51 j1)), none, none, none]) dX10_goOn_13 (Nat.le_of_ble_eq_true rfl) rfl ?_
  refine ag_aload_n dX10_goOn_14 rfl (Or.inr ⟨_, rfl⟩) ?_
  refine rr_get (v := .ref (c.2.2.1 + (35 + 1))) ho dX10_goOn_15 fw_10_127 rfl ?_
  refine ag_iload_n dX10_goOn_18 rfl ?_
  obtain ⟨j3, hj4, h⟩ := h
  refine rr_il (v := S.1 52 j3) ho dX10_goOn_19 (k := 35) (f := 52) rfl hj4 rfl ?_
  refine ag_istore_n (lv2 := [some (.ref c.2.2.1), some (.int ((S.1 49 0) - 1)), some (.int (S.1 51 j1)), some (.int (S.1 52 j3)), none, none]) dX10_goOn_20 (Nat.le_of_ble_eq_true rfl) rfl ?_
  refine ag_aload_n dX10_goOn_21 rfl (Or.inr ⟨_, rfl⟩) ?_
  refine rr_get (v := .ref (c.2.2.1 + (35 + 1))) ho dX10_goOn_22 fw_10_127 rfl ?_
  refine ag_iload_n dX10_goOn_25 rfl ?_
  refine ag_dup2 dX10_goOn_26 rfl rfl ?_
  obtain ⟨j5, hj6, h⟩ := h
  refine rr_il (v := S.1 52 j5) ho dX10_goOn_27 (k := 35) (f := 52) rfl hj6 rfl ?_
  refine ag_iconst (v := 1) dX10_goOn_28 rfl ?_
  refine ag_iadd dX10_goOn_29 rfl ?_
  obtain ⟨j7, hj8, h⟩ := h
  refine rr_is (S2 := (rsi S 52 j7 ((S.1 52 j5) + 1))) ho dX10_goOn_30 (k := 35) (f := 52) rfl hj8 rfl ?_
  refine ag_aload_n dX10_goOn_31 rfl (Or.inr ⟨_, rfl⟩) ?_
  refine rr_get (v := .ref (c.2.2.1 + (36 + 1))) ho dX10_goOn_32 fw_10_130 rfl ?_
  refine ag_iload_n dX10_goOn_35 rfl ?_
  obtain ⟨j9, hj10, h⟩ := h
  refine rr_il (v := S.1 53 j9) ho dX10_goOn_36 (k := 36) (f := 53) rfl hj10 rfl ?_
  refine ag_istore (lv2 := [some (.ref c.2.2.1), some (.int ((S.1 49 0) - 1)), some (.int (S.1 51 j1)), some (.int (S.1 52 j3)), some (.int (S.1 53 j9)), none]) dX10_goOn_37 (Nat.le_of_ble_eq_true rfl) rfl ?_
  refine ag_iload_n dX10_goOn_39 rfl ?_
  refine ag_iconst (v := 1) dX10_goOn_40 rfl ?_
  refine ag_icmp_ne (tgt := 54) dX10_goOn_41 rfl (fun hc11 => ?_) (fun hc11 => ?_)
  · have h := h.1 hc11
    exact h
  · have h := h.2 hc11
    refine ag_aload_n dX10_goOn_44 rfl (Or.inr ⟨_, rfl⟩) ?_
    refine rr_get (v := .ref (c.2.2.1 + (37 + 1))) ho dX10_goOn_45 fw_10_133 rfl ?_
    refine ag_iload_n dX10_goOn_48 rfl ?_
    refine ag_aload_n dX10_goOn_49 rfl (Or.inr ⟨_, rfl⟩) ?_
    refine rr_get (v := .int (S.1 50 0)) ho dX10_goOn_50 fw_10_357 rfl ?_
    obtain ⟨j12, hj13, h⟩ := h
    refine rr_is (S2 := (rsi (rsi S 52 j7 ((S.1 52 j5) + 1)) 54 j12 (S.1 50 0))) ho dX10_goOn_53 (k := 37) (f := 54) rfl hj13 rfl ?_
    exact h
set_option maxRecDepth 20000 in
set_option maxHeartbeats 4000000 in
theorem w_X10_goOn_54 {c : rX} {d : Nat} {S : rS} {K : Option Value → rS → Prop} (ho : rOK c) (v1 : Int32) (v2 : Int32) (v3 : Int32) (v4 : Int32) (h : ∃ j1 : Nat, am_ix v2 j1 320 ∧ ((¬ (S.1 5 j1) = (-1) → ((¬ v3 = 0 → (∃ j5 : Nat, am_ix v2 j5 320 ∧ (((S.1 4 j5) < 71 → (rG c eX10_goOn (d + 1) (rQ c K) 122 [some (.ref c.2.2.1), some (.int v1), some (.int v2), some (.int v3), some (.int v4), some (.int (S.1 4 j5))] [] S)) ∧ (¬ (S.1 4 j5) < 71 → ((73 < (S.1 4 j5) → (rG c eX10_goOn (d + 1) (rQ c K) 122 [some (.ref c.2.2.1), some (.int v1), some (.int v2), some (.int v3), some (.int v4), some (.int (S.1 4 j5))] [] S)) ∧ (¬ 73 < (S.1 4 j5) → (rM c d eX10_callOn (.ref c.2.2.1 :: [.int v2, .int v3, .int v4]) S (fun v S9 => v = none ∧ (K none S9))))))))) ∧ (v3 = 0 → (∃ j11 : Nat, am_ix v2 j11 320 ∧ (rM c d eX10_begin (.ref c.2.2.1 :: [.int (S.1 5 j11), .int v4]) S (fun v S13 => v = none ∧ (K none S13))))))) ∧ ((S.1 5 j1) = (-1) → (rM c d eX10_leaf (.ref c.2.2.1 :: [.int v2, .int v4]) S (fun v S15 => v = none ∧ (K none S15)))))) : rG c eX10_goOn (d + 1) (rQ c K) 54 [some (.ref c.2.2.1), some (.int v1), some (.int v2), some (.int v3), some (.int v4), none] [] S := by
  refine ag_aload_n dX10_goOn_54 rfl (Or.inr ⟨_, rfl⟩) ?_
  refine rr_get (v := .ref (c.2.2.1 + (2 + 1))) ho dX10_goOn_55 fw_10_20 rfl ?_
  refine ag_iload_n dX10_goOn_58 rfl ?_
  obtain ⟨j1, hj2, h⟩ := h
  refine rr_il (v := S.1 5 j1) ho dX10_goOn_59 (k := 2) (f := 5) rfl hj2 rfl ?_
  refine ag_iconst (v := (-1)) dX10_goOn_60 rfl ?_
  refine ag_icmp_ne (tgt := 72) dX10_goOn_61 rfl (fun hc3 => ?_) (fun hc3 => ?_)
  · have h := h.1 hc3
    refine ag_iload_n dX10_goOn_72 rfl ?_
    refine ag_if_ne (tgt := 89) dX10_goOn_73 rfl (fun hc4 => ?_) (fun hc4 => ?_)
    · have h := h.1 hc4
      refine ag_aload_n dX10_goOn_89 rfl (Or.inr ⟨_, rfl⟩) ?_
      refine rr_get (v := .ref (c.2.2.1 + (1 + 1))) ho dX10_goOn_90 fw_10_17 rfl ?_
      refine ag_iload_n dX10_goOn_93 rfl ?_
      obtain ⟨j5, hj6, h⟩ := h
      refine rr_il (v := S.1 4 j5) ho dX10_goOn_94 (k := 1) (f := 4) rfl hj6 rfl ?_
      refine ag_istore (lv2 := [some (.ref c.2.2.1), some (.int v1), some (.int v2), some (.int v3), some (.int v4), some (.int (S.1 4 j5))]) dX10_goOn_95 (Nat.le_of_ble_eq_true rfl) rfl ?_
      refine ag_iload dX10_goOn_97 rfl ?_
      refine ag_bipush (v := 71) dX10_goOn_99 (by decide) ?_
      refine ag_icmp_lt (tgt := 122) dX10_goOn_101 rfl (fun hc7 => ?_) (fun hc7 => ?_)
      · have h := h.1 hc7
        exact h
      · have h := h.2 hc7
        refine ag_iload dX10_goOn_104 rfl ?_
        refine ag_bipush (v := 73) dX10_goOn_106 (by decide) ?_
        refine ag_icmp_gt (tgt := 122) dX10_goOn_108 rfl (fun hc8 => ?_) (fun hc8 => ?_)
        · have h := h.1 hc8
          exact h
        · have h := h.2 hc8
          refine ag_aload_n dX10_goOn_111 rfl (Or.inr ⟨_, rfl⟩) ?_
          refine ag_iload_n dX10_goOn_112 rfl ?_
          refine ag_iload_n dX10_goOn_113 rfl ?_
          refine ag_iload dX10_goOn_114 rfl ?_
          refine rr_call (as := [.int v2, .int v3, .int v4]) (rest := []) ho dX10_goOn_116 me_X10_callOn mi_X10_callOn lk_10_369 rfl rfl (Nat.le_of_ble_eq_true rfl) ?_
          refine rM.mono h ?_
          rintro v S9 ⟨rfl, h⟩
          show rG _ _ _ _ _ _ [] _
          refine ag_goto (tgt := 257) dX10_goOn_119 rfl ?_
          exact ag_ret (v := none) dX10_goOn_257 rfl ⟨_, rfl, _, rfl, h⟩ rfl
    · have h := h.2 hc4
      refine ag_aload_n dX10_goOn_76 rfl (Or.inr ⟨_, rfl⟩) ?_
      refine ag_aload_n dX10_goOn_77 rfl (Or.inr ⟨_, rfl⟩) ?_
      refine rr_get (v := .ref (c.2.2.1 + (2 + 1))) ho dX10_goOn_78 fw_10_20 rfl ?_
      refine ag_iload_n dX10_goOn_81 rfl ?_
      obtain ⟨j11, hj12, h⟩ := h
      refine rr_il (v := S.1 5 j11) ho dX10_goOn_82 (k := 2) (f := 5) rfl hj12 rfl ?_
      refine ag_iload dX10_goOn_83 rfl ?_
      refine rr_call (as := [.int (S.1 5 j11), .int v4]) (rest := []) ho dX10_goOn_85 me_X10_begin mi_X10_begin lk_10_366 rfl rfl (Nat.le_of_ble_eq_true rfl) ?_
      refine rM.mono h ?_
      rintro v S13 ⟨rfl, h⟩
      show rG _ _ _ _ _ _ [] _
      exact ag_ret (v := none) dX10_goOn_88 rfl ⟨_, rfl, _, rfl, h⟩ rfl
  · have h := h.2 hc3
    refine ag_aload_n dX10_goOn_64 rfl (Or.inr ⟨_, rfl⟩) ?_
    refine ag_iload_n dX10_goOn_65 rfl ?_
    refine ag_iload dX10_goOn_66 rfl ?_
    refine rr_call (as := [.int v2, .int v4]) (rest := []) ho dX10_goOn_68 me_X10_leaf mi_X10_leaf lk_10_363 rfl rfl (Nat.le_of_ble_eq_true rfl) ?_
    refine rM.mono h ?_
    rintro v S15 ⟨rfl, h⟩
    show rG _ _ _ _ _ _ [] _
    exact ag_ret (v := none) dX10_goOn_71 rfl ⟨_, rfl, _, rfl, h⟩ rfl
set_option maxRecDepth 20000 in
set_option maxHeartbeats 4000000 in
theorem w_X10_goOn_122 {c : rX} {d : Nat} {S : rS} {K : Option Value → rS → Prop} (ho : rOK c) (v1 : Int32) (v2 : Int32) (v3 : Int32) (v4 : Int32) (v5 : Int32) (h : ∃ j1 : Nat, am_ix v2 j1 320 ∧ ((¬ (S.1 6 j1) = (-1) → ((v5 = 63 → (rM c d eX10_choose (.ref c.2.2.1 :: [.int v2, .int v3, .int v4]) S (fun v S5 => v = none ∧ (K none S5)))) ∧ (¬ v5 = 63 → ((v5 = 38 → (rM c d eX10_choose (.ref c.2.2.1 :: [.int v2, .int v3, .int v4]) S (fun v S8 => v = none ∧ (K none S8)))) ∧ (¬ v5 = 38 → ((¬ v5 = 124 → ((¬ v3 = 1 → ((¬ v5 = 58 → (∃ j13 : Nat, am_ix v1 j13 80 ∧ (rM c d eX10_binary (.ref c.2.2.1 :: [.int v2, .int (S.1 54 j13), .int (S.1 50 0)]) S (fun v S15 => v = none ∧ (K none S15))))) ∧ (v5 = 58 → (rM c d eX10_end (.ref c.2.2.1 :: [.int (S.1 50 0)]) S (fun v S17 => v = none ∧ (K none S17)))))) ∧ (v3 = 1 → ((¬ v5 = 58 → (rG c eX10_goOn (d + 1) (rQ c K) 209 [some (.ref c.2.2.1), none, some (.int v2), none, some (.int v4), none] [] S)) ∧ (v5 = 58 → (∃ j20 : Nat, am_ix v2 j20 320 ∧ (∃ j22 : Nat, am_ix ((8 * v4) + (S.1 8 j20)) j22 40 ∧ (rG c eX10_goOn (d + 1) (rQ c K) 209 [some (.ref c.2.2.1), none, some (.int v2), none, some (.int v4), none] [] (rsi S 55 j22 (S.1 50 0)))))))))) ∧ (v5 = 124 → (rM c d eX10_choose (.ref c.2.2.1 :: [.int v2, .int v3, .int v4]) S (fun v S24 => v = none ∧ (K none S24)))))))))) ∧ ((S.1 6 j1) = (-1) → (rM c d eX10_unary (.ref c.2.2.1 :: [.int v2, .int (S.1 50 0)]) S (fun v S26 => v = none ∧ (K none S26)))))) : rG c eX10_goOn (d + 1) (rQ c K) 122 [some (.ref c.2.2.1), some (.int v1), some (.int v2), some (.int v3), some (.int v4), some (.int v5)] [] S := by
  refine ag_aload_n dX10_goOn_122 rfl (Or.inr ⟨_, rfl⟩) ?_
  refine rr_get (v := .ref (c.2.2.1 + (3 + 1))) ho dX10_goOn_123 fw_10_23 rfl ?_
  refine ag_iload_n dX10_goOn_126 rfl ?_
  obtain ⟨j1, hj2, h⟩ := h
  refine rr_il (v := S.1 6 j1) ho dX10_goOn_127 (k := 3) (f := 6) rfl hj2 rfl ?_
  refine ag_iconst (v := (-1)) dX10_goOn_128 rfl ?_
  refine ag_icmp_ne (tgt := 144) dX10_goOn_129 rfl (fun hc3 => ?_) (fun hc3 => ?_)
  · have h := h.1 hc3
    refine ag_iload dX10_goOn_144 rfl ?_
    refine ag_bipush (v := 63) dX10_goOn_146 (by decide) ?_
    refine ag_icmp_eq (tgt := 165) dX10_goOn_148 rfl (fun hc4 => ?_) (fun hc4 => ?_)
    · have h := h.1 hc4
      refine ag_aload_n dX10_goOn_165 rfl (Or.inr ⟨_, rfl⟩) ?_
      refine ag_iload_n dX10_goOn_166 rfl ?_
      refine ag_iload_n dX10_goOn_167 rfl ?_
      refine ag_iload dX10_goOn_168 rfl ?_
      refine rr_call (as := [.int v2, .int v3, .int v4]) (rest := []) ho dX10_goOn_170 me_X10_choose mi_X10_choose lk_10_375 rfl rfl (Nat.le_of_ble_eq_true rfl) ?_
      refine rM.mono h ?_
      rintro v S5 ⟨rfl, h⟩
      show rG _ _ _ _ _ _ [] _
      refine ag_goto (tgt := 257) dX10_goOn_173 rfl ?_
      exact ag_ret (v := none) dX10_goOn_257 rfl ⟨_, rfl, _, rfl, h⟩ rfl
    · have h := h.2 hc4
      refine ag_iload dX10_goOn_151 rfl ?_
      refine ag_bipush (v := 38) dX10_goOn_153 (by decide) ?_
      refine ag_icmp_eq (tgt := 165) dX10_goOn_155 rfl (fun hc7 => ?_) (fun hc7 => ?_)
      · have h := h.1 hc7
        refine ag_aload_n dX10_goOn_165 rfl (Or.inr ⟨_, rfl⟩) ?_
        refine ag_iload_n dX10_goOn_166 rfl ?_
        refine ag_iload_n dX10_goOn_167 rfl ?_
        refine ag_iload dX10_goOn_168 rfl ?_
        refine rr_call (as := [.int v2, .int v3, .int v4]) (rest := []) ho dX10_goOn_170 me_X10_choose mi_X10_choose lk_10_375 rfl rfl (Nat.le_of_ble_eq_true rfl) ?_
        refine rM.mono h ?_
        rintro v S8 ⟨rfl, h⟩
        show rG _ _ _ _ _ _ [] _
        refine ag_goto (tgt := 257) dX10_goOn_173 rfl ?_
        exact ag_ret (v := none) dX10_goOn_257 rfl ⟨_, rfl, _, rfl, h⟩ rfl
      · have h := h.2 hc7
        refine ag_iload dX10_goOn_158 rfl ?_
        refine ag_bipush (v := 124) dX10_goOn_160 (by decide) ?_
        refine ag_icmp_ne (tgt := 176) dX10_goOn_162 rfl (fun hc10 => ?_) (fun hc10 => ?_)
        · have h := h.1 hc10
          refine ag_iload_n dX10_goOn_176 rfl ?_
          refine ag_iconst (v := 1) dX10_goOn_177 rfl ?_
          refine ag_icmp_ne (tgt := 224) dX10_goOn_178 rfl (fun hc11 => ?_) (fun hc11 => ?_)
          · have h := h.1 hc11
            refine ag_iload dX10_goOn_224 rfl ?_
            refine ag_bipush (v := 58) dX10_goOn_226 (by decide) ?_
            refine ag_icmp_ne (tgt := 242) dX10_goOn_228 rfl (fun hc12 => ?_) (fun hc12 => ?_)
            · have h := h.1 hc12
              refine ag_aload_n dX10_goOn_242 rfl (Or.inr ⟨_, rfl⟩) ?_
              refine ag_iload_n dX10_goOn_243 rfl ?_
              refine ag_aload_n dX10_goOn_244 rfl (Or.inr ⟨_, rfl⟩) ?_
              refine rr_get (v := .ref (c.2.2.1 + (37 + 1))) ho dX10_goOn_245 fw_10_133 rfl ?_
              refine ag_iload_n dX10_goOn_248 rfl ?_
              obtain ⟨j13, hj14, h⟩ := h
              refine rr_il (v := S.1 54 j13) ho dX10_goOn_249 (k := 37) (f := 54) rfl hj14 rfl ?_
              refine ag_aload_n dX10_goOn_250 rfl (Or.inr ⟨_, rfl⟩) ?_
              refine rr_get (v := .int (S.1 50 0)) ho dX10_goOn_251 fw_10_357 rfl ?_
              refine rr_call (as := [.int v2, .int (S.1 54 j13), .int (S.1 50 0)]) (rest := []) ho dX10_goOn_254 me_X10_binary mi_X10_binary lk_10_381 rfl rfl (Nat.le_of_ble_eq_true rfl) ?_
              refine rM.mono h ?_
              rintro v S15 ⟨rfl, h⟩
              show rG _ _ _ _ _ _ [] _
              exact ag_ret (v := none) dX10_goOn_257 rfl ⟨_, rfl, _, rfl, h⟩ rfl
            · have h := h.2 hc12
              refine ag_aload_n dX10_goOn_231 rfl (Or.inr ⟨_, rfl⟩) ?_
              refine ag_aload_n dX10_goOn_232 rfl (Or.inr ⟨_, rfl⟩) ?_
              refine rr_get (v := .int (S.1 50 0)) ho dX10_goOn_233 fw_10_357 rfl ?_
              refine rr_call (as := [.int (S.1 50 0)]) (rest := []) ho dX10_goOn_236 me_X10_end mi_X10_end lk_10_378 rfl rfl (Nat.le_of_ble_eq_true rfl) ?_
              refine rM.mono h ?_
              rintro v S17 ⟨rfl, h⟩
              show rG _ _ _ _ _ _ [] _
              refine ag_goto (tgt := 257) dX10_goOn_239 rfl ?_
              exact ag_ret (v := none) dX10_goOn_257 rfl ⟨_, rfl, _, rfl, h⟩ rfl
          · have h := h.2 hc11
            refine ag_iload dX10_goOn_181 rfl ?_
            refine ag_bipush (v := 58) dX10_goOn_183 (by decide) ?_
            refine ag_icmp_ne (tgt := 209) dX10_goOn_185 rfl (fun hc19 => ?_) (fun hc19 => ?_)
            · have h := h.1 hc19
              refine ag_drop 1 ?_
              refine ag_drop 3 ?_
              refine ag_drop 5 ?_
              exact h
            · have h := h.2 hc19
              refine ag_aload_n dX10_goOn_188 rfl (Or.inr ⟨_, rfl⟩) ?_
              refine rr_get (v := .ref (c.2.2.1 + (38 + 1))) ho dX10_goOn_189 fw_10_136 rfl ?_
              refine ag_bipush (v := 8) dX10_goOn_192 (by decide) ?_
              refine ag_iload dX10_goOn_194 rfl ?_
              refine ag_imul dX10_goOn_196 rfl ?_
              refine ag_aload_n dX10_goOn_197 rfl (Or.inr ⟨_, rfl⟩) ?_
              refine rr_get (v := .ref (c.2.2.1 + (5 + 1))) ho dX10_goOn_198 fw_10_29 rfl ?_
              refine ag_iload_n dX10_goOn_201 rfl ?_
              obtain ⟨j20, hj21, h⟩ := h
              refine rr_il (v := S.1 8 j20) ho dX10_goOn_202 (k := 5) (f := 8) rfl hj21 rfl ?_
              refine ag_iadd dX10_goOn_203 rfl ?_
              refine ag_aload_n dX10_goOn_204 rfl (Or.inr ⟨_, rfl⟩) ?_
              refine rr_get (v := .int (S.1 50 0)) ho dX10_goOn_205 fw_10_357 rfl ?_
              obtain ⟨j22, hj23, h⟩ := h
              refine rr_is (S2 := (rsi S 55 j22 (S.1 50 0))) ho dX10_goOn_208 (k := 38) (f := 55) rfl hj23 rfl ?_
              refine ag_drop 1 ?_
              refine ag_drop 3 ?_
              refine ag_drop 5 ?_
              exact h
        · have h := h.2 hc10
          refine ag_aload_n dX10_goOn_165 rfl (Or.inr ⟨_, rfl⟩) ?_
          refine ag_iload_n dX10_goOn_166 rfl ?_
          refine ag_iload_n dX10_goOn_167 rfl ?_
          refine ag_iload dX10_goOn_168 rfl ?_
          refine rr_call (as := [.int v2, .int v3, .int v4]) (rest := []) ho dX10_goOn_170 me_X10_choose mi_X10_choose lk_10_375 rfl rfl (Nat.le_of_ble_eq_true rfl) ?_
          refine rM.mono h ?_
          rintro v S24 ⟨rfl, h⟩
          show rG _ _ _ _ _ _ [] _
          refine ag_goto (tgt := 257) dX10_goOn_173 rfl ?_
          exact ag_ret (v := none) dX10_goOn_257 rfl ⟨_, rfl, _, rfl, h⟩ rfl
  · have h := h.2 hc3
    refine ag_aload_n dX10_goOn_132 rfl (Or.inr ⟨_, rfl⟩) ?_
    refine ag_iload_n dX10_goOn_133 rfl ?_
    refine ag_aload_n dX10_goOn_134 rfl (Or.inr ⟨_, rfl⟩) ?_
    refine rr_get (v := .int (S.1 50 0)) ho dX10_goOn_135 fw_10_357 rfl ?_
    refine rr_call (as := [.int v2, .int (S.1 50 0)]) (rest := []) ho dX10_goOn_138 me_X10_unary mi_X10_unary lk_10_372 rfl rfl (Nat.le_of_ble_eq_true rfl) ?_
    refine rM.mono h ?_
    rintro v S26 ⟨rfl, h⟩
    show rG _ _ _ _ _ _ [] _
    refine ag_goto (tgt := 257) dX10_goOn_141 rfl ?_
    exact ag_ret (v := none) dX10_goOn_257 rfl ⟨_, rfl, _, rfl, h⟩ rfl
set_option maxRecDepth 20000 in
set_option maxHeartbeats 4000000 in
theorem w_X10_goOn_209 {c : rX} {d : Nat} {S : rS} {K : Option Value → rS → Prop} (ho : rOK c) (v2 : Int32) (v4 : Int32) (h : ∃ j1 : Nat, am_ix v2 j1 320 ∧ (rM c d eX10_begin (.ref c.2.2.1 :: [.int (S.1 6 j1), .int v4]) S (fun v S3 => v = none ∧ (K none S3)))) : rG c eX10_goOn (d + 1) (rQ c K) 209 [some (.ref c.2.2.1), none, some (.int v2), none, some (.int v4), none] [] S := by
  refine ag_aload_n dX10_goOn_209 rfl (Or.inr ⟨_, rfl⟩) ?_
  refine ag_aload_n dX10_goOn_210 rfl (Or.inr ⟨_, rfl⟩) ?_
  refine rr_get (v := .ref (c.2.2.1 + (3 + 1))) ho dX10_goOn_211 fw_10_23 rfl ?_
  refine ag_iload_n dX10_goOn_214 rfl ?_
  obtain ⟨j1, hj2, h⟩ := h
  refine rr_il (v := S.1 6 j1) ho dX10_goOn_215 (k := 3) (f := 6) rfl hj2 rfl ?_
  refine ag_iload dX10_goOn_216 rfl ?_
  refine rr_call (as := [.int (S.1 6 j1), .int v4]) (rest := []) ho dX10_goOn_218 me_X10_begin mi_X10_begin lk_10_366 rfl rfl (Nat.le_of_ble_eq_true rfl) ?_
  refine rM.mono h ?_
  rintro v S3 ⟨rfl, h⟩
  show rG _ _ _ _ _ _ [] _
  refine ag_goto (tgt := 257) dX10_goOn_221 rfl ?_
  exact ag_ret (v := none) dX10_goOn_257 rfl ⟨_, rfl, _, rfl, h⟩ rfl
theorem dX10_leaf_0 : decode cX10_leaf 0 = .ok (.aload_n 0, 1) := by decide +kernel
theorem dX10_leaf_1 : decode cX10_leaf 1 = .ok (.getfield 17, 3) := by decide +kernel
theorem dX10_leaf_4 : decode cX10_leaf 4 = .ok (.iload_n 1, 1) := by decide +kernel
theorem dX10_leaf_5 : decode cX10_leaf 5 = .ok (.iaload, 1) := by decide +kernel
theorem dX10_leaf_6 : decode cX10_leaf 6 = .ok (.lookupswitch 81 #[(35, 57), (46, 73), (48, 42), (126, 65)], 42) := by decide +kernel
theorem dX10_leaf_48 : decode cX10_leaf 48 = .ok (.aload_n 0, 1) := by decide +kernel
theorem dX10_leaf_49 : decode cX10_leaf 49 = .ok (.iconst 3, 1) := by decide +kernel
theorem dX10_leaf_50 : decode cX10_leaf 50 = .ok (.aload_n 0, 1) := by decide +kernel
theorem dX10_leaf_51 : decode cX10_leaf 51 = .ok (.getfield 29, 3) := by decide +kernel
theorem dX10_leaf_54 : decode cX10_leaf 54 = .ok (.iload_n 1, 1) := by decide +kernel
theorem dX10_leaf_55 : decode cX10_leaf 55 = .ok (.iaload, 1) := by decide +kernel
theorem dX10_leaf_56 : decode cX10_leaf 56 = .ok (.iadd, 1) := by decide +kernel
theorem dX10_leaf_57 : decode cX10_leaf 57 = .ok (.invokevirtual 378, 3) := by decide +kernel
theorem dX10_leaf_60 : decode cX10_leaf 60 = .ok (.goto 71, 3) := by decide +kernel
theorem dX10_leaf_63 : decode cX10_leaf 63 = .ok (.aload_n 0, 1) := by decide +kernel
theorem dX10_leaf_64 : decode cX10_leaf 64 = .ok (.iconst 0, 1) := by decide +kernel
theorem dX10_leaf_65 : decode cX10_leaf 65 = .ok (.invokevirtual 378, 3) := by decide +kernel
theorem dX10_leaf_68 : decode cX10_leaf 68 = .ok (.goto 63, 3) := by decide +kernel
theorem dX10_leaf_71 : decode cX10_leaf 71 = .ok (.aload_n 0, 1) := by decide +kernel
theorem dX10_leaf_72 : decode cX10_leaf 72 = .ok (.iconst 1, 1) := by decide +kernel
theorem dX10_leaf_73 : decode cX10_leaf 73 = .ok (.invokevirtual 378, 3) := by decide +kernel
theorem dX10_leaf_76 : decode cX10_leaf 76 = .ok (.goto 55, 3) := by decide +kernel
theorem dX10_leaf_79 : decode cX10_leaf 79 = .ok (.aload_n 0, 1) := by decide +kernel
theorem dX10_leaf_80 : decode cX10_leaf 80 = .ok (.iconst 2, 1) := by decide +kernel
theorem dX10_leaf_81 : decode cX10_leaf 81 = .ok (.invokevirtual 378, 3) := by decide +kernel
theorem dX10_leaf_84 : decode cX10_leaf 84 = .ok (.goto 47, 3) := by decide +kernel
theorem dX10_leaf_87 : decode cX10_leaf 87 = .ok (.aload_n 0, 1) := by decide +kernel
theorem dX10_leaf_88 : decode cX10_leaf 88 = .ok (.aload_n 0, 1) := by decide +kernel
theorem dX10_leaf_89 : decode cX10_leaf 89 = .ok (.getfield 29, 3) := by decide +kernel
theorem dX10_leaf_92 : decode cX10_leaf 92 = .ok (.iload_n 1, 1) := by decide +kernel
theorem dX10_leaf_93 : decode cX10_leaf 93 = .ok (.iaload, 1) := by decide +kernel
theorem dX10_leaf_94 : decode cX10_leaf 94 = .ok (.iconst 2, 1) := by decide +kernel
theorem dX10_leaf_95 : decode cX10_leaf 95 = .ok (.if_icmp .ge 17, 3) := by decide +kernel
theorem dX10_leaf_98 : decode cX10_leaf 98 = .ok (.aload_n 0, 1) := by decide +kernel
theorem dX10_leaf_99 : decode cX10_leaf 99 = .ok (.getfield 118, 3) := by decide +kernel
theorem dX10_leaf_102 : decode cX10_leaf 102 = .ok (.aload_n 0, 1) := by decide +kernel
theorem dX10_leaf_103 : decode cX10_leaf 103 = .ok (.getfield 29, 3) := by decide +kernel
theorem dX10_leaf_106 : decode cX10_leaf 106 = .ok (.iload_n 1, 1) := by decide +kernel
theorem dX10_leaf_107 : decode cX10_leaf 107 = .ok (.iaload, 1) := by decide +kernel
theorem dX10_leaf_108 : decode cX10_leaf 108 = .ok (.iaload, 1) := by decide +kernel
theorem dX10_leaf_109 : decode cX10_leaf 109 = .ok (.goto 19, 3) := by decide +kernel
theorem dX10_leaf_112 : decode cX10_leaf 112 = .ok (.aload_n 0, 1) := by decide +kernel
theorem dX10_leaf_113 : decode cX10_leaf 113 = .ok (.getfield 136, 3) := by decide +kernel
theorem dX10_leaf_116 : decode cX10_leaf 116 = .ok (.bipush 8, 2) := by decide +kernel
theorem dX10_leaf_118 : decode cX10_leaf 118 = .ok (.iload_n 2, 1) := by decide +kernel
theorem dX10_leaf_119 : decode cX10_leaf 119 = .ok (.imul, 1) := by decide +kernel
theorem dX10_leaf_120 : decode cX10_leaf 120 = .ok (.aload_n 0, 1) := by decide +kernel
theorem dX10_leaf_121 : decode cX10_leaf 121 = .ok (.getfield 29, 3) := by decide +kernel
theorem dX10_leaf_124 : decode cX10_leaf 124 = .ok (.iload_n 1, 1) := by decide +kernel
theorem dX10_leaf_125 : decode cX10_leaf 125 = .ok (.iaload, 1) := by decide +kernel
theorem dX10_leaf_126 : decode cX10_leaf 126 = .ok (.iadd, 1) := by decide +kernel
theorem dX10_leaf_127 : decode cX10_leaf 127 = .ok (.iaload, 1) := by decide +kernel
theorem dX10_leaf_128 : decode cX10_leaf 128 = .ok (.invokevirtual 378, 3) := by decide +kernel
theorem dX10_leaf_131 : decode cX10_leaf 131 = .ok (.return_, 1) := by decide +kernel
set_option maxRecDepth 20000 in
set_option maxHeartbeats 4000000 in
theorem w_X10_leaf {c : rX} {d : Nat} {S : rS} {K : Option Value → rS → Prop} (ho : rOK c) (p0 : Int32) (p1 : Int32) (h : ∃ j1 : Nat, am_ix p0 j1 320 ∧ (((S.1 4 j1) = 35 → (rM c d eX10_end (.ref c.2.2.1 :: [.int 0]) S (fun v S3 => v = none ∧ (K none S3)))) ∧ ((S.1 4 j1) = 46 → (rM c d eX10_end (.ref c.2.2.1 :: [.int 2]) S (fun v S5 => v = none ∧ (K none S5)))) ∧ ((S.1 4 j1) = 48 → (∃ j7 : Nat, am_ix p0 j7 320 ∧ (rM c d eX10_end (.ref c.2.2.1 :: [.int (3 + (S.1 8 j7))]) S (fun v S9 => v = none ∧ (K none S9))))) ∧ ((S.1 4 j1) = 126 → (rM c d eX10_end (.ref c.2.2.1 :: [.int 1]) S (fun v S11 => v = none ∧ (K none S11)))) ∧ (¬ (S.1 4 j1) = 35 ∧ ¬ (S.1 4 j1) = 46 ∧ ¬ (S.1 4 j1) = 48 ∧ ¬ (S.1 4 j1) = 126 → (∃ j13 : Nat, am_ix p0 j13 320 ∧ ((2 ≤ (S.1 8 j13) → (∃ j16 : Nat, am_ix p0 j16 320 ∧ (∃ j18 : Nat, am_ix ((8 * p1) + (S.1 8 j16)) j18 40 ∧ (rM c d eX10_end (.ref c.2.2.1 :: [.int (S.1 55 j18)]) S (fun v S20 => v = none ∧ (K none S20)))))) ∧ (¬ 2 ≤ (S.1 8 j13) → (∃ j22 : Nat, am_ix p0 j22 320 ∧ (∃ j24 : Nat, am_ix (S.1 8 j22) j24 2 ∧ (rM c d eX10_end (.ref c.2.2.1 :: [.int (S.1 45 j24)]) S (fun v S26 => v = none ∧ (K none S26))))))))))) : rM c (d + 1) eX10_leaf [.ref c.2.2.1, .int p0, .int p1] S K := by
  refine rM.of (by decide) (Nat.le_of_ble_eq_true rfl) ?_
  show rG c eX10_leaf (d + 1) (rQ c K) 0 [some (.ref c.2.2.1), some (.int p0), some (.int p1)] [] S
  refine ag_aload_n dX10_leaf_0 rfl (Or.inr ⟨_, rfl⟩) ?_
  refine rr_get (v := .ref (c.2.2.1 + (1 + 1))) ho dX10_leaf_1 fw_10_17 rfl ?_
  refine ag_iload_n dX10_leaf_4 rfl ?_
  obtain ⟨j1, hj2, h⟩ := h
  refine rr_il (v := S.1 4 j1) ho dX10_leaf_5 (k := 1) (f := 4) rfl hj2 rfl ?_
  obtain ⟨q28, q29, q30, q31, q32⟩ := h
  by_cases hk33 : (S.1 4 j1) = 35
  · refine ag_lookup (tgt := 63) (off := 57) dX10_leaf_6 (by decide) (by rw [hk33]; decide) rfl ?_
    have h := q28 hk33
    refine ag_aload_n dX10_leaf_63 rfl (Or.inr ⟨_, rfl⟩) ?_
    refine ag_iconst (v := 0) dX10_leaf_64 rfl ?_
    refine rr_call (as := [.int 0]) (rest := []) ho dX10_leaf_65 me_X10_end mi_X10_end lk_10_378 rfl rfl (Nat.le_of_ble_eq_true rfl) ?_
    refine rM.mono h ?_
    rintro v S3 ⟨rfl, h⟩
    show rG _ _ _ _ _ _ [] _
    refine ag_goto (tgt := 131) dX10_leaf_68 rfl ?_
    exact ag_ret (v := none) dX10_leaf_131 rfl ⟨_, rfl, _, rfl, h⟩ rfl
  · by_cases hk34 : (S.1 4 j1) = 46
    · refine ag_lookup (tgt := 79) (off := 73) dX10_leaf_6 (by decide) (by rw [lv_osw (k := 35) hk33 (by decide)]; rw [hk34]; decide) rfl ?_
      have h := q29 hk34
      refine ag_aload_n dX10_leaf_79 rfl (Or.inr ⟨_, rfl⟩) ?_
      refine ag_iconst (v := 2) dX10_leaf_80 rfl ?_
      refine rr_call (as := [.int 2]) (rest := []) ho dX10_leaf_81 me_X10_end mi_X10_end lk_10_378 rfl rfl (Nat.le_of_ble_eq_true rfl) ?_
      refine rM.mono h ?_
      rintro v S5 ⟨rfl, h⟩
      show rG _ _ _ _ _ _ [] _
      refine ag_goto (tgt := 131) dX10_leaf_84 rfl ?_
      exact ag_ret (v := none) dX10_leaf_131 rfl ⟨_, rfl, _, rfl, h⟩ rfl
    · by_cases hk35 : (S.1 4 j1) = 48
      · refine ag_lookup (tgt := 48) (off := 42) dX10_leaf_6 (by decide) (by rw [lv_osw (k := 35) hk33 (by decide)]; rw [lv_osw (k := 46) hk34 (by decide)]; rw [hk35]; decide) rfl ?_
        have h := q30 hk35
        refine ag_aload_n dX10_leaf_48 rfl (Or.inr ⟨_, rfl⟩) ?_
        refine ag_iconst (v := 3) dX10_leaf_49 rfl ?_
        refine ag_aload_n dX10_leaf_50 rfl (Or.inr ⟨_, rfl⟩) ?_
        refine rr_get (v := .ref (c.2.2.1 + (5 + 1))) ho dX10_leaf_51 fw_10_29 rfl ?_
        refine ag_iload_n dX10_leaf_54 rfl ?_
        obtain ⟨j7, hj8, h⟩ := h
        refine rr_il (v := S.1 8 j7) ho dX10_leaf_55 (k := 5) (f := 8) rfl hj8 rfl ?_
        refine ag_iadd dX10_leaf_56 rfl ?_
        refine rr_call (as := [.int (3 + (S.1 8 j7))]) (rest := []) ho dX10_leaf_57 me_X10_end mi_X10_end lk_10_378 rfl rfl (Nat.le_of_ble_eq_true rfl) ?_
        refine rM.mono h ?_
        rintro v S9 ⟨rfl, h⟩
        show rG _ _ _ _ _ _ [] _
        refine ag_goto (tgt := 131) dX10_leaf_60 rfl ?_
        exact ag_ret (v := none) dX10_leaf_131 rfl ⟨_, rfl, _, rfl, h⟩ rfl
      · by_cases hk36 : (S.1 4 j1) = 126
        · refine ag_lookup (tgt := 71) (off := 65) dX10_leaf_6 (by decide) (by rw [lv_osw (k := 35) hk33 (by decide)]; rw [lv_osw (k := 46) hk34 (by decide)]; rw [lv_osw (k := 48) hk35 (by decide)]; rw [hk36]; decide) rfl ?_
          have h := q31 hk36
          refine ag_aload_n dX10_leaf_71 rfl (Or.inr ⟨_, rfl⟩) ?_
          refine ag_iconst (v := 1) dX10_leaf_72 rfl ?_
          refine rr_call (as := [.int 1]) (rest := []) ho dX10_leaf_73 me_X10_end mi_X10_end lk_10_378 rfl rfl (Nat.le_of_ble_eq_true rfl) ?_
          refine rM.mono h ?_
          rintro v S11 ⟨rfl, h⟩
          show rG _ _ _ _ _ _ [] _
          refine ag_goto (tgt := 131) dX10_leaf_76 rfl ?_
          exact ag_ret (v := none) dX10_leaf_131 rfl ⟨_, rfl, _, rfl, h⟩ rfl
        · refine ag_lookup (tgt := 87) (off := 81) dX10_leaf_6 (by decide) (by rw [lv_osw (k := 35) hk33 (by decide)]; rw [lv_osw (k := 46) hk34 (by decide)]; rw [lv_osw (k := 48) hk35 (by decide)]; rw [lv_osw (k := 126) hk36 (by decide)]; rfl) rfl ?_
          have h := q32 ⟨hk33, hk34, hk35, hk36⟩
          refine ag_aload_n dX10_leaf_87 rfl (Or.inr ⟨_, rfl⟩) ?_
          refine ag_aload_n dX10_leaf_88 rfl (Or.inr ⟨_, rfl⟩) ?_
          refine rr_get (v := .ref (c.2.2.1 + (5 + 1))) ho dX10_leaf_89 fw_10_29 rfl ?_
          refine ag_iload_n dX10_leaf_92 rfl ?_
          obtain ⟨j13, hj14, h⟩ := h
          refine rr_il (v := S.1 8 j13) ho dX10_leaf_93 (k := 5) (f := 8) rfl hj14 rfl ?_
          refine ag_iconst (v := 2) dX10_leaf_94 rfl ?_
          refine ag_icmp_ge (tgt := 112) dX10_leaf_95 rfl (fun hc15 => ?_) (fun hc15 => ?_)
          · have h := h.1 hc15
            refine ag_aload_n dX10_leaf_112 rfl (Or.inr ⟨_, rfl⟩) ?_
            refine rr_get (v := .ref (c.2.2.1 + (38 + 1))) ho dX10_leaf_113 fw_10_136 rfl ?_
            refine ag_bipush (v := 8) dX10_leaf_116 (by decide) ?_
            refine ag_iload_n dX10_leaf_118 rfl ?_
            refine ag_imul dX10_leaf_119 rfl ?_
            refine ag_aload_n dX10_leaf_120 rfl (Or.inr ⟨_, rfl⟩) ?_
            refine rr_get (v := .ref (c.2.2.1 + (5 + 1))) ho dX10_leaf_121 fw_10_29 rfl ?_
            refine ag_iload_n dX10_leaf_124 rfl ?_
            obtain ⟨j16, hj17, h⟩ := h
            refine rr_il (v := S.1 8 j16) ho dX10_leaf_125 (k := 5) (f := 8) rfl hj17 rfl ?_
            refine ag_iadd dX10_leaf_126 rfl ?_
            obtain ⟨j18, hj19, h⟩ := h
            refine rr_il (v := S.1 55 j18) ho dX10_leaf_127 (k := 38) (f := 55) rfl hj19 rfl ?_
            refine rr_call (as := [.int (S.1 55 j18)]) (rest := []) ho dX10_leaf_128 me_X10_end mi_X10_end lk_10_378 rfl rfl (Nat.le_of_ble_eq_true rfl) ?_
            refine rM.mono h ?_
            rintro v S20 ⟨rfl, h⟩
            show rG _ _ _ _ _ _ [] _
            exact ag_ret (v := none) dX10_leaf_131 rfl ⟨_, rfl, _, rfl, h⟩ rfl
          · have h := h.2 hc15
            refine ag_aload_n dX10_leaf_98 rfl (Or.inr ⟨_, rfl⟩) ?_
            refine rr_get (v := .ref (c.2.2.1 + (33 + 1))) ho dX10_leaf_99 fw_10_118 rfl ?_
            refine ag_aload_n dX10_leaf_102 rfl (Or.inr ⟨_, rfl⟩) ?_
            refine rr_get (v := .ref (c.2.2.1 + (5 + 1))) ho dX10_leaf_103 fw_10_29 rfl ?_
            refine ag_iload_n dX10_leaf_106 rfl ?_
            obtain ⟨j22, hj23, h⟩ := h
            refine rr_il (v := S.1 8 j22) ho dX10_leaf_107 (k := 5) (f := 8) rfl hj23 rfl ?_
            obtain ⟨j24, hj25, h⟩ := h
            refine rr_il (v := S.1 45 j24) ho dX10_leaf_108 (k := 33) (f := 45) rfl hj25 rfl ?_
            refine ag_goto (tgt := 128) dX10_leaf_109 rfl ?_
            refine rr_call (as := [.int (S.1 45 j24)]) (rest := []) ho dX10_leaf_128 me_X10_end mi_X10_end lk_10_378 rfl rfl (Nat.le_of_ble_eq_true rfl) ?_
            refine rM.mono h ?_
            rintro v S26 ⟨rfl, h⟩
            show rG _ _ _ _ _ _ [] _
            exact ag_ret (v := none) dX10_leaf_131 rfl ⟨_, rfl, _, rfl, h⟩ rfl
theorem dX10_callOn_0 : decode cX10_callOn 0 = .ok (.aload_n 0, 1) := by decide +kernel
theorem dX10_callOn_1 : decode cX10_callOn 1 = .ok (.getfield 17, 3) := by decide +kernel
theorem dX10_callOn_4 : decode cX10_callOn 4 = .ok (.iload_n 1, 1) := by decide +kernel
theorem dX10_callOn_5 : decode cX10_callOn 5 = .ok (.iaload, 1) := by decide +kernel
theorem dX10_callOn_6 : decode cX10_callOn 6 = .ok (.bipush 71, 2) := by decide +kernel
theorem dX10_callOn_8 : decode cX10_callOn 8 = .ok (.isub, 1) := by decide +kernel
theorem dX10_callOn_9 : decode cX10_callOn 9 = .ok (.istore 4, 2) := by decide +kernel
theorem dX10_callOn_11 : decode cX10_callOn 11 = .ok (.iload_n 2, 1) := by decide +kernel
theorem dX10_callOn_12 : decode cX10_callOn 12 = .ok (.iconst 1, 1) := by decide +kernel
theorem dX10_callOn_13 : decode cX10_callOn 13 = .ok (.if_icmp .le 12, 3) := by decide +kernel
theorem dX10_callOn_16 : decode cX10_callOn 16 = .ok (.aload_n 0, 1) := by decide +kernel
theorem dX10_callOn_17 : decode cX10_callOn 17 = .ok (.aload_n 0, 1) := by decide +kernel
theorem dX10_callOn_18 : decode cX10_callOn 18 = .ok (.getfield 357, 3) := by decide +kernel
theorem dX10_callOn_21 : decode cX10_callOn 21 = .ok (.invokevirtual 378, 3) := by decide +kernel
theorem dX10_callOn_24 : decode cX10_callOn 24 = .ok (.return_, 1) := by decide +kernel
theorem dX10_callOn_25 : decode cX10_callOn 25 = .ok (.aload_n 0, 1) := by decide +kernel
theorem dX10_callOn_26 : decode cX10_callOn 26 = .ok (.getfield 136, 3) := by decide +kernel
theorem dX10_callOn_29 : decode cX10_callOn 29 = .ok (.bipush 8, 2) := by decide +kernel
theorem dX10_callOn_31 : decode cX10_callOn 31 = .ok (.iload_n 3, 1) := by decide +kernel
theorem dX10_callOn_32 : decode cX10_callOn 32 = .ok (.iconst 1, 1) := by decide +kernel
theorem dX10_callOn_33 : decode cX10_callOn 33 = .ok (.iadd, 1) := by decide +kernel
theorem dX10_callOn_34 : decode cX10_callOn 34 = .ok (.imul, 1) := by decide +kernel
theorem dX10_callOn_35 : decode cX10_callOn 35 = .ok (.aload_n 0, 1) := by decide +kernel
theorem dX10_callOn_36 : decode cX10_callOn 36 = .ok (.getfield 45, 3) := by decide +kernel
theorem dX10_callOn_39 : decode cX10_callOn 39 = .ok (.iload 4, 2) := by decide +kernel
theorem dX10_callOn_41 : decode cX10_callOn 41 = .ok (.iaload, 1) := by decide +kernel
theorem dX10_callOn_42 : decode cX10_callOn 42 = .ok (.iadd, 1) := by decide +kernel
theorem dX10_callOn_43 : decode cX10_callOn 43 = .ok (.aload_n 0, 1) := by decide +kernel
theorem dX10_callOn_44 : decode cX10_callOn 44 = .ok (.getfield 357, 3) := by decide +kernel
theorem dX10_callOn_47 : decode cX10_callOn 47 = .ok (.iastore, 1) := by decide +kernel
theorem dX10_callOn_48 : decode cX10_callOn 48 = .ok (.aload_n 0, 1) := by decide +kernel
theorem dX10_callOn_49 : decode cX10_callOn 49 = .ok (.aload_n 0, 1) := by decide +kernel
theorem dX10_callOn_50 : decode cX10_callOn 50 = .ok (.getfield 35, 3) := by decide +kernel
theorem dX10_callOn_53 : decode cX10_callOn 53 = .ok (.iload 4, 2) := by decide +kernel
theorem dX10_callOn_55 : decode cX10_callOn 55 = .ok (.iaload, 1) := by decide +kernel
theorem dX10_callOn_56 : decode cX10_callOn 56 = .ok (.iload_n 3, 1) := by decide +kernel
theorem dX10_callOn_57 : decode cX10_callOn 57 = .ok (.iconst 1, 1) := by decide +kernel
theorem dX10_callOn_58 : decode cX10_callOn 58 = .ok (.iadd, 1) := by decide +kernel
theorem dX10_callOn_59 : decode cX10_callOn 59 = .ok (.invokevirtual 366, 3) := by decide +kernel
theorem dX10_callOn_62 : decode cX10_callOn 62 = .ok (.return_, 1) := by decide +kernel
set_option maxRecDepth 20000 in
set_option maxHeartbeats 4000000 in
theorem w_X10_callOn {c : rX} {d : Nat} {S : rS} {K : Option Value → rS → Prop} (ho : rOK c) (p0 : Int32) (p1 : Int32) (p2 : Int32) (h : ∃ j1 : Nat, am_ix p0 j1 320 ∧ ((p1 ≤ 1 → (∃ j4 : Nat, am_ix ((S.1 4 j1) - 71) j4 3 ∧ (∃ j6 : Nat, am_ix ((8 * (p2 + 1)) + (S.1 13 j4)) j6 40 ∧ (∃ j8 : Nat, am_ix ((S.1 4 j1) - 71) j8 5 ∧ (rM c d eX10_begin (.ref c.2.2.1 :: [.int (S.1 10 j8), .int (p2 + 1)]) (rsi S 55 j6 (S.1 50 0)) (fun v S10 => v = none ∧ (K none S10))))))) ∧ (¬ p1 ≤ 1 → (rM c d eX10_end (.ref c.2.2.1 :: [.int (S.1 50 0)]) S (fun v S12 => v = none ∧ (K none S12)))))) : rM c (d + 1) eX10_callOn [.ref c.2.2.1, .int p0, .int p1, .int p2] S K := by
  refine rM.of (by decide) (Nat.le_of_ble_eq_true rfl) ?_
  show rG c eX10_callOn (d + 1) (rQ c K) 0 [some (.ref c.2.2.1), some (.int p0), some (.int p1), some (.int p2), none] [] S
  refine ag_aload_n dX10_callOn_0 rfl (Or.inr ⟨_, rfl⟩) ?_
  refine rr_get (v := .ref (c.2.2.1 + (1 + 1))) ho dX10_callOn_1 fw_10_17 rfl ?_
  refine ag_iload_n dX10_callOn_4 rfl ?_
  obtain ⟨j1, hj2, h⟩ := h
  refine rr_il (v := S.1 4 j1) ho dX10_callOn_5 (k := 1) (f := 4) rfl hj2 rfl ?_
  refine ag_bipush (v := 71) dX10_callOn_6 (by decide) ?_
  refine ag_isub dX10_callOn_8 rfl ?_
  refine ag_istore (lv2 := [some (.ref c.2.2.1), some (.int p0), some (.int p1), some (.int p2), some (.int ((S.1 4 j1) - 71))]) dX10_callOn_9 (Nat.le_of_ble_eq_true rfl) rfl ?_
  refine ag_iload_n dX10_callOn_11 rfl ?_
  refine ag_iconst (v := 1) dX10_callOn_12 rfl ?_
  refine ag_icmp_le (tgt := 25) dX10_callOn_13 rfl (fun hc3 => ?_) (fun hc3 => ?_)
  · have h := h.1 hc3
    refine ag_aload_n dX10_callOn_25 rfl (Or.inr ⟨_, rfl⟩) ?_
    refine rr_get (v := .ref (c.2.2.1 + (38 + 1))) ho dX10_callOn_26 fw_10_136 rfl ?_
    refine ag_bipush (v := 8) dX10_callOn_29 (by decide) ?_
    refine ag_iload_n dX10_callOn_31 rfl ?_
    refine ag_iconst (v := 1) dX10_callOn_32 rfl ?_
    refine ag_iadd dX10_callOn_33 rfl ?_
    refine ag_imul dX10_callOn_34 rfl ?_
    refine ag_aload_n dX10_callOn_35 rfl (Or.inr ⟨_, rfl⟩) ?_
    refine rr_get (v := .ref (c.2.2.1 + (10 + 1))) ho dX10_callOn_36 fw_10_45 rfl ?_
    refine ag_iload dX10_callOn_39 rfl ?_
    obtain ⟨j4, hj5, h⟩ := h
    refine rr_il (v := S.1 13 j4) ho dX10_callOn_41 (k := 10) (f := 13) rfl hj5 rfl ?_
    refine ag_iadd dX10_callOn_42 rfl ?_
    refine ag_aload_n dX10_callOn_43 rfl (Or.inr ⟨_, rfl⟩) ?_
    refine rr_get (v := .int (S.1 50 0)) ho dX10_callOn_44 fw_10_357 rfl ?_
    obtain ⟨j6, hj7, h⟩ := h
    refine rr_is (S2 := (rsi S 55 j6 (S.1 50 0))) ho dX10_callOn_47 (k := 38) (f := 55) rfl hj7 rfl ?_
    refine ag_aload_n dX10_callOn_48 rfl (Or.inr ⟨_, rfl⟩) ?_
    refine ag_aload_n dX10_callOn_49 rfl (Or.inr ⟨_, rfl⟩) ?_
    refine rr_get (v := .ref (c.2.2.1 + (7 + 1))) ho dX10_callOn_50 fw_10_35 rfl ?_
    refine ag_iload dX10_callOn_53 rfl ?_
    obtain ⟨j8, hj9, h⟩ := h
    refine rr_il (v := S.1 10 j8) ho dX10_callOn_55 (k := 7) (f := 10) rfl hj9 rfl ?_
    refine ag_iload_n dX10_callOn_56 rfl ?_
    refine ag_iconst (v := 1) dX10_callOn_57 rfl ?_
    refine ag_iadd dX10_callOn_58 rfl ?_
    refine rr_call (as := [.int (S.1 10 j8), .int (p2 + 1)]) (rest := []) ho dX10_callOn_59 me_X10_begin mi_X10_begin lk_10_366 rfl rfl (Nat.le_of_ble_eq_true rfl) ?_
    refine rM.mono h ?_
    rintro v S10 ⟨rfl, h⟩
    show rG _ _ _ _ _ _ [] _
    exact ag_ret (v := none) dX10_callOn_62 rfl ⟨_, rfl, _, rfl, h⟩ rfl
  · have h := h.2 hc3
    refine ag_aload_n dX10_callOn_16 rfl (Or.inr ⟨_, rfl⟩) ?_
    refine ag_aload_n dX10_callOn_17 rfl (Or.inr ⟨_, rfl⟩) ?_
    refine rr_get (v := .int (S.1 50 0)) ho dX10_callOn_18 fw_10_357 rfl ?_
    refine rr_call (as := [.int (S.1 50 0)]) (rest := []) ho dX10_callOn_21 me_X10_end mi_X10_end lk_10_378 rfl rfl (Nat.le_of_ble_eq_true rfl) ?_
    refine rM.mono h ?_
    rintro v S12 ⟨rfl, h⟩
    show rG _ _ _ _ _ _ [] _
    exact ag_ret (v := none) dX10_callOn_24 rfl ⟨_, rfl, _, rfl, h⟩ rfl
theorem dX10_unary_0 : decode cX10_unary 0 = .ok (.aload_n 0, 1) := by decide +kernel
theorem dX10_unary_1 : decode cX10_unary 1 = .ok (.getfield 106, 3) := by decide +kernel
theorem dX10_unary_4 : decode cX10_unary 4 = .ok (.iload_n 2, 1) := by decide +kernel
theorem dX10_unary_5 : decode cX10_unary 5 = .ok (.iaload, 1) := by decide +kernel
theorem dX10_unary_6 : decode cX10_unary 6 = .ok (.istore_n 3, 1) := by decide +kernel
theorem dX10_unary_7 : decode cX10_unary 7 = .ok (.aload_n 0, 1) := by decide +kernel
theorem dX10_unary_8 : decode cX10_unary 8 = .ok (.getfield 17, 3) := by decide +kernel
theorem dX10_unary_11 : decode cX10_unary 11 = .ok (.iload_n 1, 1) := by decide +kernel
theorem dX10_unary_12 : decode cX10_unary 12 = .ok (.iaload, 1) := by decide +kernel
theorem dX10_unary_13 : decode cX10_unary 13 = .ok (.lookupswitch 158 #[(33, 138), (66, 71), (69, 96), (78, 51), (80, 117)], 51) := by decide +kernel
theorem dX10_unary_64 : decode cX10_unary 64 = .ok (.aload_n 0, 1) := by decide +kernel
theorem dX10_unary_65 : decode cX10_unary 65 = .ok (.iload_n 3, 1) := by decide +kernel
theorem dX10_unary_66 : decode cX10_unary 66 = .ok (.iconst 1, 1) := by decide +kernel
theorem dX10_unary_67 : decode cX10_unary 67 = .ok (.if_icmp .ne 7, 3) := by decide +kernel
theorem dX10_unary_70 : decode cX10_unary 70 = .ok (.iconst 1, 1) := by decide +kernel
theorem dX10_unary_71 : decode cX10_unary 71 = .ok (.goto 4, 3) := by decide +kernel
theorem dX10_unary_74 : decode cX10_unary 74 = .ok (.iconst 0, 1) := by decide +kernel
theorem dX10_unary_75 : decode cX10_unary 75 = .ok (.invokestatic 384, 3) := by decide +kernel
theorem dX10_unary_78 : decode cX10_unary 78 = .ok (.invokevirtual 378, 3) := by decide +kernel
theorem dX10_unary_81 : decode cX10_unary 81 = .ok (.goto 134, 3) := by decide +kernel
theorem dX10_unary_84 : decode cX10_unary 84 = .ok (.aload_n 0, 1) := by decide +kernel
theorem dX10_unary_85 : decode cX10_unary 85 = .ok (.iload_n 3, 1) := by decide +kernel
theorem dX10_unary_86 : decode cX10_unary 86 = .ok (.iconst 2, 1) := by decide +kernel
theorem dX10_unary_87 : decode cX10_unary 87 = .ok (.if_icmp .eq 8, 3) := by decide +kernel
theorem dX10_unary_90 : decode cX10_unary 90 = .ok (.iload_n 3, 1) := by decide +kernel
theorem dX10_unary_91 : decode cX10_unary 91 = .ok (.iconst 4, 1) := by decide +kernel
theorem dX10_unary_92 : decode cX10_unary 92 = .ok (.if_icmp .ne 7, 3) := by decide +kernel
theorem dX10_unary_95 : decode cX10_unary 95 = .ok (.iconst 1, 1) := by decide +kernel
theorem dX10_unary_96 : decode cX10_unary 96 = .ok (.goto 4, 3) := by decide +kernel
theorem dX10_unary_99 : decode cX10_unary 99 = .ok (.iconst 0, 1) := by decide +kernel
theorem dX10_unary_100 : decode cX10_unary 100 = .ok (.invokestatic 384, 3) := by decide +kernel
theorem dX10_unary_103 : decode cX10_unary 103 = .ok (.invokevirtual 378, 3) := by decide +kernel
theorem dX10_unary_106 : decode cX10_unary 106 = .ok (.goto 109, 3) := by decide +kernel
theorem dX10_unary_109 : decode cX10_unary 109 = .ok (.aload_n 0, 1) := by decide +kernel
theorem dX10_unary_110 : decode cX10_unary 110 = .ok (.iload_n 3, 1) := by decide +kernel
theorem dX10_unary_111 : decode cX10_unary 111 = .ok (.bipush 8, 2) := by decide +kernel
theorem dX10_unary_113 : decode cX10_unary 113 = .ok (.if_icmp .ne 7, 3) := by decide +kernel
theorem dX10_unary_116 : decode cX10_unary 116 = .ok (.iconst 1, 1) := by decide +kernel
theorem dX10_unary_117 : decode cX10_unary 117 = .ok (.goto 4, 3) := by decide +kernel
theorem dX10_unary_120 : decode cX10_unary 120 = .ok (.iconst 0, 1) := by decide +kernel
theorem dX10_unary_121 : decode cX10_unary 121 = .ok (.invokestatic 384, 3) := by decide +kernel
theorem dX10_unary_124 : decode cX10_unary 124 = .ok (.invokevirtual 378, 3) := by decide +kernel
theorem dX10_unary_127 : decode cX10_unary 127 = .ok (.goto 88, 3) := by decide +kernel
theorem dX10_unary_130 : decode cX10_unary 130 = .ok (.aload_n 0, 1) := by decide +kernel
theorem dX10_unary_131 : decode cX10_unary 131 = .ok (.iload_n 3, 1) := by decide +kernel
theorem dX10_unary_132 : decode cX10_unary 132 = .ok (.bipush 16, 2) := by decide +kernel
theorem dX10_unary_134 : decode cX10_unary 134 = .ok (.if_icmp .ne 7, 3) := by decide +kernel
theorem dX10_unary_137 : decode cX10_unary 137 = .ok (.iconst 1, 1) := by decide +kernel
theorem dX10_unary_138 : decode cX10_unary 138 = .ok (.goto 4, 3) := by decide +kernel
theorem dX10_unary_141 : decode cX10_unary 141 = .ok (.iconst 0, 1) := by decide +kernel
theorem dX10_unary_142 : decode cX10_unary 142 = .ok (.invokestatic 384, 3) := by decide +kernel
theorem dX10_unary_145 : decode cX10_unary 145 = .ok (.invokevirtual 378, 3) := by decide +kernel
theorem dX10_unary_148 : decode cX10_unary 148 = .ok (.goto 67, 3) := by decide +kernel
theorem dX10_unary_151 : decode cX10_unary 151 = .ok (.aload_n 0, 1) := by decide +kernel
theorem dX10_unary_152 : decode cX10_unary 152 = .ok (.iload_n 3, 1) := by decide +kernel
theorem dX10_unary_153 : decode cX10_unary 153 = .ok (.iconst 4, 1) := by decide +kernel
theorem dX10_unary_154 : decode cX10_unary 154 = .ok (.if_icmp .ne 7, 3) := by decide +kernel
theorem dX10_unary_157 : decode cX10_unary 157 = .ok (.iconst 1, 1) := by decide +kernel
theorem dX10_unary_158 : decode cX10_unary 158 = .ok (.goto 4, 3) := by decide +kernel
theorem dX10_unary_161 : decode cX10_unary 161 = .ok (.iconst 0, 1) := by decide +kernel
theorem dX10_unary_162 : decode cX10_unary 162 = .ok (.invokestatic 384, 3) := by decide +kernel
theorem dX10_unary_165 : decode cX10_unary 165 = .ok (.invokevirtual 378, 3) := by decide +kernel
theorem dX10_unary_168 : decode cX10_unary 168 = .ok (.goto 47, 3) := by decide +kernel
theorem dX10_unary_171 : decode cX10_unary 171 = .ok (.iload_n 3, 1) := by decide +kernel
theorem dX10_unary_172 : decode cX10_unary 172 = .ok (.bipush 16, 2) := by decide +kernel
theorem dX10_unary_174 : decode cX10_unary 174 = .ok (.if_icmp .eq 11, 3) := by decide +kernel
theorem dX10_unary_177 : decode cX10_unary 177 = .ok (.aload_n 0, 1) := by decide +kernel
theorem dX10_unary_178 : decode cX10_unary 178 = .ok (.iconst 2, 1) := by decide +kernel
theorem dX10_unary_179 : decode cX10_unary 179 = .ok (.invokevirtual 388, 3) := by decide +kernel
theorem dX10_unary_182 : decode cX10_unary 182 = .ok (.goto 33, 3) := by decide +kernel
theorem dX10_unary_185 : decode cX10_unary 185 = .ok (.aload_n 0, 1) := by decide +kernel
theorem dX10_unary_186 : decode cX10_unary 186 = .ok (.aload_n 0, 1) := by decide +kernel
theorem dX10_unary_187 : decode cX10_unary 187 = .ok (.getfield 17, 3) := by decide +kernel
theorem dX10_unary_190 : decode cX10_unary 190 = .ok (.iload_n 1, 1) := by decide +kernel
theorem dX10_unary_191 : decode cX10_unary 191 = .ok (.iaload, 1) := by decide +kernel
theorem dX10_unary_192 : decode cX10_unary 192 = .ok (.bipush 65, 2) := by decide +kernel
theorem dX10_unary_194 : decode cX10_unary 194 = .ok (.if_icmp .ne 12, 3) := by decide +kernel
theorem dX10_unary_197 : decode cX10_unary 197 = .ok (.aload_n 0, 1) := by decide +kernel
theorem dX10_unary_198 : decode cX10_unary 198 = .ok (.getfield 112, 3) := by decide +kernel
theorem dX10_unary_201 : decode cX10_unary 201 = .ok (.iload_n 2, 1) := by decide +kernel
theorem dX10_unary_202 : decode cX10_unary 202 = .ok (.iaload, 1) := by decide +kernel
theorem dX10_unary_203 : decode cX10_unary 203 = .ok (.goto 9, 3) := by decide +kernel
theorem dX10_unary_206 : decode cX10_unary 206 = .ok (.aload_n 0, 1) := by decide +kernel
theorem dX10_unary_207 : decode cX10_unary 207 = .ok (.getfield 115, 3) := by decide +kernel
theorem dX10_unary_210 : decode cX10_unary 210 = .ok (.iload_n 2, 1) := by decide +kernel
theorem dX10_unary_211 : decode cX10_unary 211 = .ok (.iaload, 1) := by decide +kernel
theorem dX10_unary_212 : decode cX10_unary 212 = .ok (.invokevirtual 378, 3) := by decide +kernel
theorem dX10_unary_215 : decode cX10_unary 215 = .ok (.return_, 1) := by decide +kernel
set_option maxRecDepth 20000 in
set_option maxHeartbeats 4000000 in
theorem w_X10_unary {c : rX} {d : Nat} {S : rS} {K : Option Value → rS → Prop} (ho : rOK c) (p0 : Int32) (p1 : Int32) (h : ∃ j1 : Nat, am_ix p1 j1 64 ∧ (∃ j3 : Nat, am_ix p0 j3 320 ∧ (((S.1 4 j3) = 33 → ((¬ (S.1 41 j1) = 4 → (rM c d eX10_truth [.int 0] S (fun v S6 => ∃ z7 : Int32, v = some (.int z7) ∧ (rM c d eX10_end (.ref c.2.2.1 :: [.int z7]) S6 (fun v S8 => v = none ∧ (K none S8)))))) ∧ ((S.1 41 j1) = 4 → (rM c d eX10_truth [.int 1] S (fun v S10 => ∃ z11 : Int32, v = some (.int z11) ∧ (rM c d eX10_end (.ref c.2.2.1 :: [.int z11]) S10 (fun v S12 => v = none ∧ (K none S12)))))))) ∧ ((S.1 4 j3) = 66 → (((S.1 41 j1) = 2 → (rM c d eX10_truth [.int 1] S (fun v S15 => ∃ z16 : Int32, v = some (.int z16) ∧ (rM c d eX10_end (.ref c.2.2.1 :: [.int z16]) S15 (fun v S17 => v = none ∧ (K none S17)))))) ∧ (¬ (S.1 41 j1) = 2 → ((¬ (S.1 41 j1) = 4 → (rM c d eX10_truth [.int 0] S (fun v S20 => ∃ z21 : Int32, v = some (.int z21) ∧ (rM c d eX10_end (.ref c.2.2.1 :: [.int z21]) S20 (fun v S22 => v = none ∧ (K none S22)))))) ∧ ((S.1 41 j1) = 4 → (rM c d eX10_truth [.int 1] S (fun v S24 => ∃ z25 : Int32, v = some (.int z25) ∧ (rM c d eX10_end (.ref c.2.2.1 :: [.int z25]) S24 (fun v S26 => v = none ∧ (K none S26)))))))))) ∧ ((S.1 4 j3) = 69 → ((¬ (S.1 41 j1) = 8 → (rM c d eX10_truth [.int 0] S (fun v S29 => ∃ z30 : Int32, v = some (.int z30) ∧ (rM c d eX10_end (.ref c.2.2.1 :: [.int z30]) S29 (fun v S31 => v = none ∧ (K none S31)))))) ∧ ((S.1 41 j1) = 8 → (rM c d eX10_truth [.int 1] S (fun v S33 => ∃ z34 : Int32, v = some (.int z34) ∧ (rM c d eX10_end (.ref c.2.2.1 :: [.int z34]) S33 (fun v S35 => v = none ∧ (K none S35)))))))) ∧ ((S.1 4 j3) = 78 → ((¬ (S.1 41 j1) = 1 → (rM c d eX10_truth [.int 0] S (fun v S38 => ∃ z39 : Int32, v = some (.int z39) ∧ (rM c d eX10_end (.ref c.2.2.1 :: [.int z39]) S38 (fun v S40 => v = none ∧ (K none S40)))))) ∧ ((S.1 41 j1) = 1 → (rM c d eX10_truth [.int 1] S (fun v S42 => ∃ z43 : Int32, v = some (.int z43) ∧ (rM c d eX10_end (.ref c.2.2.1 :: [.int z43]) S42 (fun v S44 => v = none ∧ (K none S44)))))))) ∧ ((S.1 4 j3) = 80 → ((¬ (S.1 41 j1) = 16 → (rM c d eX10_truth [.int 0] S (fun v S47 => ∃ z48 : Int32, v = some (.int z48) ∧ (rM c d eX10_end (.ref c.2.2.1 :: [.int z48]) S47 (fun v S49 => v = none ∧ (K none S49)))))) ∧ ((S.1 41 j1) = 16 → (rM c d eX10_truth [.int 1] S (fun v S51 => ∃ z52 : Int32, v = some (.int z52) ∧ (rM c d eX10_end (.ref c.2.2.1 :: [.int z52]) S51 (fun v S53 => v = none ∧ (K none S53)))))))) ∧ (¬ (S.1 4 j3) = 33 ∧ ¬ (S.1 4 j3) = 66 ∧ ¬ (S.1 4 j3) = 69 ∧ ¬ (S.1 4 j3) = 78 ∧ ¬ (S.1 4 j3) = 80 → (((S.1 41 j1) = 16 → (∃ j56 : Nat, am_ix p0 j56 320 ∧ ((¬ (S.1 4 j56) = 65 → (∃ j59 : Nat, am_ix p1 j59 64 ∧ (rM c d eX10_end (.ref c.2.2.1 :: [.int (S.1 44 j59)]) S (fun v S61 => v = none ∧ (K none S61))))) ∧ ((S.1 4 j56) = 65 → (∃ j63 : Nat, am_ix p1 j63 64 ∧ (rM c d eX10_end (.ref c.2.2.1 :: [.int (S.1 43 j63)]) S (fun v S65 => v = none ∧ (K none S65)))))))) ∧ (¬ (S.1 41 j1) = 16 → (rM c d eX10_stop (.ref c.2.2.1 :: [.int 2]) S (fun v S67 => v = none ∧ (K none S67))))))))) : rM c (d + 1) eX10_unary [.ref c.2.2.1, .int p0, .int p1] S K := by
  refine rM.of (by decide) (Nat.le_of_ble_eq_true rfl) ?_
  show rG c eX10_unary (d + 1) (rQ c K) 0 [some (.ref c.2.2.1), some (.int p0), some (.int p1), none] [] S
  refine ag_aload_n dX10_unary_0 rfl (Or.inr ⟨_, rfl⟩) ?_
  refine rr_get (v := .ref (c.2.2.1 + (29 + 1))) ho dX10_unary_1 fw_10_106 rfl ?_
  refine ag_iload_n dX10_unary_4 rfl ?_
  obtain ⟨j1, hj2, h⟩ := h
  refine rr_il (v := S.1 41 j1) ho dX10_unary_5 (k := 29) (f := 41) rfl hj2 rfl ?_
  refine ag_istore_n (lv2 := [some (.ref c.2.2.1), some (.int p0), some (.int p1), some (.int (S.1 41 j1))]) dX10_unary_6 (Nat.le_of_ble_eq_true rfl) rfl ?_
  refine ag_aload_n dX10_unary_7 rfl (Or.inr ⟨_, rfl⟩) ?_
  refine rr_get (v := .ref (c.2.2.1 + (1 + 1))) ho dX10_unary_8 fw_10_17 rfl ?_
  refine ag_iload_n dX10_unary_11 rfl ?_
  obtain ⟨j3, hj4, h⟩ := h
  refine rr_il (v := S.1 4 j3) ho dX10_unary_12 (k := 1) (f := 4) rfl hj4 rfl ?_
  obtain ⟨q69, q70, q71, q72, q73, q74⟩ := h
  by_cases hk75 : (S.1 4 j3) = 33
  · refine ag_lookup (tgt := 151) (off := 138) dX10_unary_13 (by decide) (by rw [hk75]; decide) rfl ?_
    have h := q69 hk75
    refine ag_aload_n dX10_unary_151 rfl (Or.inr ⟨_, rfl⟩) ?_
    refine ag_iload_n dX10_unary_152 rfl ?_
    refine ag_iconst (v := 4) dX10_unary_153 rfl ?_
    refine ag_icmp_ne (tgt := 161) dX10_unary_154 rfl (fun hc5 => ?_) (fun hc5 => ?_)
    · have h := h.1 hc5
      refine ag_iconst (v := 0) dX10_unary_161 rfl ?_
      refine rr_calls (as := [.int 0]) (rest := [.ref c.2.2.1]) dX10_unary_162 me_X10_truth ms_X10_truth lk_10_384 rfl rfl (Nat.le_of_ble_eq_true rfl) ?_
      refine rM.mono h ?_
      rintro v S6 ⟨z7, rfl, h⟩
      show rG _ _ _ _ _ _ [.int z7, .ref c.2.2.1] _
      refine rr_call (as := [.int z7]) (rest := []) ho dX10_unary_165 me_X10_end mi_X10_end lk_10_378 rfl rfl (Nat.le_of_ble_eq_true rfl) ?_
      refine rM.mono h ?_
      rintro v S8 ⟨rfl, h⟩
      show rG _ _ _ _ _ _ [] _
      refine ag_goto (tgt := 215) dX10_unary_168 rfl ?_
      exact ag_ret (v := none) dX10_unary_215 rfl ⟨_, rfl, _, rfl, h⟩ rfl
    · have h := h.2 hc5
      refine ag_iconst (v := 1) dX10_unary_157 rfl ?_
      refine ag_goto (tgt := 162) dX10_unary_158 rfl ?_
      refine rr_calls (as := [.int 1]) (rest := [.ref c.2.2.1]) dX10_unary_162 me_X10_truth ms_X10_truth lk_10_384 rfl rfl (Nat.le_of_ble_eq_true rfl) ?_
      refine rM.mono h ?_
      rintro v S10 ⟨z11, rfl, h⟩
      show rG _ _ _ _ _ _ [.int z11, .ref c.2.2.1] _
      refine rr_call (as := [.int z11]) (rest := []) ho dX10_unary_165 me_X10_end mi_X10_end lk_10_378 rfl rfl (Nat.le_of_ble_eq_true rfl) ?_
      refine rM.mono h ?_
      rintro v S12 ⟨rfl, h⟩
      show rG _ _ _ _ _ _ [] _
      refine ag_goto (tgt := 215) dX10_unary_168 rfl ?_
      exact ag_ret (v := none) dX10_unary_215 rfl ⟨_, rfl, _, rfl, h⟩ rfl
  · by_cases hk76 : (S.1 4 j3) = 66
    · refine ag_lookup (tgt := 84) (off := 71) dX10_unary_13 (by decide) (by rw [lv_osw (k := 33) hk75 (by decide)]; rw [hk76]; decide) rfl ?_
      have h := q70 hk76
      refine ag_aload_n dX10_unary_84 rfl (Or.inr ⟨_, rfl⟩) ?_
      refine ag_iload_n dX10_unary_85 rfl ?_
      refine ag_iconst (v := 2) dX10_unary_86 rfl ?_
      refine ag_icmp_eq (tgt := 95) dX10_unary_87 rfl (fun hc14 => ?_) (fun hc14 => ?_)
      · have h := h.1 hc14
        refine ag_iconst (v := 1) dX10_unary_95 rfl ?_
        refine ag_goto (tgt := 100) dX10_unary_96 rfl ?_
        refine rr_calls (as := [.int 1]) (rest := [.ref c.2.2.1]) dX10_unary_100 me_X10_truth ms_X10_truth lk_10_384 rfl rfl (Nat.le_of_ble_eq_true rfl) ?_
        refine rM.mono h ?_
        rintro v S15 ⟨z16, rfl, h⟩
        show rG _ _ _ _ _ _ [.int z16, .ref c.2.2.1] _
        refine rr_call (as := [.int z16]) (rest := []) ho dX10_unary_103 me_X10_end mi_X10_end lk_10_378 rfl rfl (Nat.le_of_ble_eq_true rfl) ?_
        refine rM.mono h ?_
        rintro v S17 ⟨rfl, h⟩
        show rG _ _ _ _ _ _ [] _
        refine ag_goto (tgt := 215) dX10_unary_106 rfl ?_
        exact ag_ret (v := none) dX10_unary_215 rfl ⟨_, rfl, _, rfl, h⟩ rfl
      · have h := h.2 hc14
        refine ag_iload_n dX10_unary_90 rfl ?_
        refine ag_iconst (v := 4) dX10_unary_91 rfl ?_
        refine ag_icmp_ne (tgt := 99) dX10_unary_92 rfl (fun hc19 => ?_) (fun hc19 => ?_)
        · have h := h.1 hc19
          refine ag_iconst (v := 0) dX10_unary_99 rfl ?_
          refine rr_calls (as := [.int 0]) (rest := [.ref c.2.2.1]) dX10_unary_100 me_X10_truth ms_X10_truth lk_10_384 rfl rfl (Nat.le_of_ble_eq_true rfl) ?_
          refine rM.mono h ?_
          rintro v S20 ⟨z21, rfl, h⟩
          show rG _ _ _ _ _ _ [.int z21, .ref c.2.2.1] _
          refine rr_call (as := [.int z21]) (rest := []) ho dX10_unary_103 me_X10_end mi_X10_end lk_10_378 rfl rfl (Nat.le_of_ble_eq_true rfl) ?_
          refine rM.mono h ?_
          rintro v S22 ⟨rfl, h⟩
          show rG _ _ _ _ _ _ [] _
          refine ag_goto (tgt := 215) dX10_unary_106 rfl ?_
          exact ag_ret (v := none) dX10_unary_215 rfl ⟨_, rfl, _, rfl, h⟩ rfl
        · have h := h.2 hc19
          refine ag_iconst (v := 1) dX10_unary_95 rfl ?_
          refine ag_goto (tgt := 100) dX10_unary_96 rfl ?_
          refine rr_calls (as := [.int 1]) (rest := [.ref c.2.2.1]) dX10_unary_100 me_X10_truth ms_X10_truth lk_10_384 rfl rfl (Nat.le_of_ble_eq_true rfl) ?_
          refine rM.mono h ?_
          rintro v S24 ⟨z25, rfl, h⟩
          show rG _ _ _ _ _ _ [.int z25, .ref c.2.2.1] _
          refine rr_call (as := [.int z25]) (rest := []) ho dX10_unary_103 me_X10_end mi_X10_end lk_10_378 rfl rfl (Nat.le_of_ble_eq_true rfl) ?_
          refine rM.mono h ?_
          rintro v S26 ⟨rfl, h⟩
          show rG _ _ _ _ _ _ [] _
          refine ag_goto (tgt := 215) dX10_unary_106 rfl ?_
          exact ag_ret (v := none) dX10_unary_215 rfl ⟨_, rfl, _, rfl, h⟩ rfl
    · by_cases hk77 : (S.1 4 j3) = 69
      · refine ag_lookup (tgt := 109) (off := 96) dX10_unary_13 (by decide) (by rw [lv_osw (k := 33) hk75 (by decide)]; rw [lv_osw (k := 66) hk76 (by decide)]; rw [hk77]; decide) rfl ?_
        have h := q71 hk77
        refine ag_aload_n dX10_unary_109 rfl (Or.inr ⟨_, rfl⟩) ?_
        refine ag_iload_n dX10_unary_110 rfl ?_
        refine ag_bipush (v := 8) dX10_unary_111 (by decide) ?_
        refine ag_icmp_ne (tgt := 120) dX10_unary_113 rfl (fun hc28 => ?_) (fun hc28 => ?_)
        · have h := h.1 hc28
          refine ag_iconst (v := 0) dX10_unary_120 rfl ?_
          refine rr_calls (as := [.int 0]) (rest := [.ref c.2.2.1]) dX10_unary_121 me_X10_truth ms_X10_truth lk_10_384 rfl rfl (Nat.le_of_ble_eq_true rfl) ?_
          refine rM.mono h ?_
          rintro v S29 ⟨z30, rfl, h⟩
          show rG _ _ _ _ _ _ [.int z30, .ref c.2.2.1] _
          refine rr_call (as := [.int z30]) (rest := []) ho dX10_unary_124 me_X10_end mi_X10_end lk_10_378 rfl rfl (Nat.le_of_ble_eq_true rfl) ?_
          refine rM.mono h ?_
          rintro v S31 ⟨rfl, h⟩
          show rG _ _ _ _ _ _ [] _
          refine ag_goto (tgt := 215) dX10_unary_127 rfl ?_
          exact ag_ret (v := none) dX10_unary_215 rfl ⟨_, rfl, _, rfl, h⟩ rfl
        · have h := h.2 hc28
          refine ag_iconst (v := 1) dX10_unary_116 rfl ?_
          refine ag_goto (tgt := 121) dX10_unary_117 rfl ?_
          refine rr_calls (as := [.int 1]) (rest := [.ref c.2.2.1]) dX10_unary_121 me_X10_truth ms_X10_truth lk_10_384 rfl rfl (Nat.le_of_ble_eq_true rfl) ?_
          refine rM.mono h ?_
          rintro v S33 ⟨z34, rfl, h⟩
          show rG _ _ _ _ _ _ [.int z34, .ref c.2.2.1] _
          refine rr_call (as := [.int z34]) (rest := []) ho dX10_unary_124 me_X10_end mi_X10_end lk_10_378 rfl rfl (Nat.le_of_ble_eq_true rfl) ?_
          refine rM.mono h ?_
          rintro v S35 ⟨rfl, h⟩
          show rG _ _ _ _ _ _ [] _
          refine ag_goto (tgt := 215) dX10_unary_127 rfl ?_
          exact ag_ret (v := none) dX10_unary_215 rfl ⟨_, rfl, _, rfl, h⟩ rfl
      · by_cases hk78 : (S.1 4 j3) = 78
        · refine ag_lookup (tgt := 64) (off := 51) dX10_unary_13 (by decide) (by rw [lv_osw (k := 33) hk75 (by decide)]; rw [lv_osw (k := 66) hk76 (by decide)]; rw [lv_osw (k := 69) hk77 (by decide)]; rw [hk78]; decide) rfl ?_
          have h := q72 hk78
          refine ag_aload_n dX10_unary_64 rfl (Or.inr ⟨_, rfl⟩) ?_
          refine ag_iload_n dX10_unary_65 rfl ?_
          refine ag_iconst (v := 1) dX10_unary_66 rfl ?_
          refine ag_icmp_ne (tgt := 74) dX10_unary_67 rfl (fun hc37 => ?_) (fun hc37 => ?_)
          · have h := h.1 hc37
            refine ag_iconst (v := 0) dX10_unary_74 rfl ?_
            refine rr_calls (as := [.int 0]) (rest := [.ref c.2.2.1]) dX10_unary_75 me_X10_truth ms_X10_truth lk_10_384 rfl rfl (Nat.le_of_ble_eq_true rfl) ?_
            refine rM.mono h ?_
            rintro v S38 ⟨z39, rfl, h⟩
            show rG _ _ _ _ _ _ [.int z39, .ref c.2.2.1] _
            refine rr_call (as := [.int z39]) (rest := []) ho dX10_unary_78 me_X10_end mi_X10_end lk_10_378 rfl rfl (Nat.le_of_ble_eq_true rfl) ?_
            refine rM.mono h ?_
            rintro v S40 ⟨rfl, h⟩
            show rG _ _ _ _ _ _ [] _
            refine ag_goto (tgt := 215) dX10_unary_81 rfl ?_
            exact ag_ret (v := none) dX10_unary_215 rfl ⟨_, rfl, _, rfl, h⟩ rfl
          · have h := h.2 hc37
            refine ag_iconst (v := 1) dX10_unary_70 rfl ?_
            refine ag_goto (tgt := 75) dX10_unary_71 rfl ?_
            refine rr_calls (as := [.int 1]) (rest := [.ref c.2.2.1]) dX10_unary_75 me_X10_truth ms_X10_truth lk_10_384 rfl rfl (Nat.le_of_ble_eq_true rfl) ?_
            refine rM.mono h ?_
            rintro v S42 ⟨z43, rfl, h⟩
            show rG _ _ _ _ _ _ [.int z43, .ref c.2.2.1] _
            refine rr_call (as := [.int z43]) (rest := []) ho dX10_unary_78 me_X10_end mi_X10_end lk_10_378 rfl rfl (Nat.le_of_ble_eq_true rfl) ?_
            refine rM.mono h ?_
            rintro v S44 ⟨rfl, h⟩
            show rG _ _ _ _ _ _ [] _
            refine ag_goto (tgt := 215) dX10_unary_81 rfl ?_
            exact ag_ret (v := none) dX10_unary_215 rfl ⟨_, rfl, _, rfl, h⟩ rfl
        · by_cases hk79 : (S.1 4 j3) = 80
          · refine ag_lookup (tgt := 130) (off := 117) dX10_unary_13 (by decide) (by rw [lv_osw (k := 33) hk75 (by decide)]; rw [lv_osw (k := 66) hk76 (by decide)]; rw [lv_osw (k := 69) hk77 (by decide)]; rw [lv_osw (k := 78) hk78 (by decide)]; rw [hk79]; decide) rfl ?_
            have h := q73 hk79
            refine ag_aload_n dX10_unary_130 rfl (Or.inr ⟨_, rfl⟩) ?_
            refine ag_iload_n dX10_unary_131 rfl ?_
            refine ag_bipush (v := 16) dX10_unary_132 (by decide) ?_
            refine ag_icmp_ne (tgt := 141) dX10_unary_134 rfl (fun hc46 => ?_) (fun hc46 => ?_)
            · have h := h.1 hc46
              refine ag_iconst (v := 0) dX10_unary_141 rfl ?_
              refine rr_calls (as := [.int 0]) (rest := [.ref c.2.2.1]) dX10_unary_142 me_X10_truth ms_X10_truth lk_10_384 rfl rfl (Nat.le_of_ble_eq_true rfl) ?_
              refine rM.mono h ?_
              rintro v S47 ⟨z48, rfl, h⟩
              show rG _ _ _ _ _ _ [.int z48, .ref c.2.2.1] _
              refine rr_call (as := [.int z48]) (rest := []) ho dX10_unary_145 me_X10_end mi_X10_end lk_10_378 rfl rfl (Nat.le_of_ble_eq_true rfl) ?_
              refine rM.mono h ?_
              rintro v S49 ⟨rfl, h⟩
              show rG _ _ _ _ _ _ [] _
              refine ag_goto (tgt := 215) dX10_unary_148 rfl ?_
              exact ag_ret (v := none) dX10_unary_215 rfl ⟨_, rfl, _, rfl, h⟩ rfl
            · have h := h.2 hc46
              refine ag_iconst (v := 1) dX10_unary_137 rfl ?_
              refine ag_goto (tgt := 142) dX10_unary_138 rfl ?_
              refine rr_calls (as := [.int 1]) (rest := [.ref c.2.2.1]) dX10_unary_142 me_X10_truth ms_X10_truth lk_10_384 rfl rfl (Nat.le_of_ble_eq_true rfl) ?_
              refine rM.mono h ?_
              rintro v S51 ⟨z52, rfl, h⟩
              show rG _ _ _ _ _ _ [.int z52, .ref c.2.2.1] _
              refine rr_call (as := [.int z52]) (rest := []) ho dX10_unary_145 me_X10_end mi_X10_end lk_10_378 rfl rfl (Nat.le_of_ble_eq_true rfl) ?_
              refine rM.mono h ?_
              rintro v S53 ⟨rfl, h⟩
              show rG _ _ _ _ _ _ [] _
              refine ag_goto (tgt := 215) dX10_unary_148 rfl ?_
              exact ag_ret (v := none) dX10_unary_215 rfl ⟨_, rfl, _, rfl, h⟩ rfl
          · refine ag_lookup (tgt := 171) (off := 158) dX10_unary_13 (by decide) (by rw [lv_osw (k := 33) hk75 (by decide)]; rw [lv_osw (k := 66) hk76 (by decide)]; rw [lv_osw (k := 69) hk77 (by decide)]; rw [lv_osw (k := 78) hk78 (by decide)]; rw [lv_osw (k := 80) hk79 (by decide)]; rfl) rfl ?_
            have h := q74 ⟨hk75, hk76, hk77, hk78, hk79⟩
            refine ag_iload_n dX10_unary_171 rfl ?_
            refine ag_bipush (v := 16) dX10_unary_172 (by decide) ?_
            refine ag_icmp_eq (tgt := 185) dX10_unary_174 rfl (fun hc55 => ?_) (fun hc55 => ?_)
            · have h := h.1 hc55
              refine ag_aload_n dX10_unary_185 rfl (Or.inr ⟨_, rfl⟩) ?_
              refine ag_aload_n dX10_unary_186 rfl (Or.inr ⟨_, rfl⟩) ?_
              refine rr_get (v := .ref (c.2.2.1 + (1 + 1))) ho dX10_unary_187 fw_10_17 rfl ?_
              refine ag_iload_n dX10_unary_190 rfl ?_
              obtain ⟨j56, hj57, h⟩ := h
              refine rr_il (v := S.1 4 j56) ho dX10_unary_191 (k := 1) (f := 4) rfl hj57 rfl ?_
              refine ag_bipush (v := 65) dX10_unary_192 (by decide) ?_
              refine ag_icmp_ne (tgt := 206) dX10_unary_194 rfl (fun hc58 => ?_) (fun hc58 => ?_)
              · have h := h.1 hc58
                refine ag_aload_n dX10_unary_206 rfl (Or.inr ⟨_, rfl⟩) ?_
                refine rr_get (v := .ref (c.2.2.1 + (32 + 1))) ho dX10_unary_207 fw_10_115 rfl ?_
                refine ag_iload_n dX10_unary_210 rfl ?_
                obtain ⟨j59, hj60, h⟩ := h
                refine rr_il (v := S.1 44 j59) ho dX10_unary_211 (k := 32) (f := 44) rfl hj60 rfl ?_
                refine rr_call (as := [.int (S.1 44 j59)]) (rest := []) ho dX10_unary_212 me_X10_end mi_X10_end lk_10_378 rfl rfl (Nat.le_of_ble_eq_true rfl) ?_
                refine rM.mono h ?_
                rintro v S61 ⟨rfl, h⟩
                show rG _ _ _ _ _ _ [] _
                exact ag_ret (v := none) dX10_unary_215 rfl ⟨_, rfl, _, rfl, h⟩ rfl
              · have h := h.2 hc58
                refine ag_aload_n dX10_unary_197 rfl (Or.inr ⟨_, rfl⟩) ?_
                refine rr_get (v := .ref (c.2.2.1 + (31 + 1))) ho dX10_unary_198 fw_10_112 rfl ?_
                refine ag_iload_n dX10_unary_201 rfl ?_
                obtain ⟨j63, hj64, h⟩ := h
                refine rr_il (v := S.1 43 j63) ho dX10_unary_202 (k := 31) (f := 43) rfl hj64 rfl ?_
                refine ag_goto (tgt := 212) dX10_unary_203 rfl ?_
                refine rr_call (as := [.int (S.1 43 j63)]) (rest := []) ho dX10_unary_212 me_X10_end mi_X10_end lk_10_378 rfl rfl (Nat.le_of_ble_eq_true rfl) ?_
                refine rM.mono h ?_
                rintro v S65 ⟨rfl, h⟩
                show rG _ _ _ _ _ _ [] _
                exact ag_ret (v := none) dX10_unary_215 rfl ⟨_, rfl, _, rfl, h⟩ rfl
            · have h := h.2 hc55
              refine ag_aload_n dX10_unary_177 rfl (Or.inr ⟨_, rfl⟩) ?_
              refine ag_iconst (v := 2) dX10_unary_178 rfl ?_
              refine rr_call (as := [.int 2]) (rest := []) ho dX10_unary_179 me_X10_stop mi_X10_stop lk_10_388 rfl rfl (Nat.le_of_ble_eq_true rfl) ?_
              refine rM.mono h ?_
              rintro v S67 ⟨rfl, h⟩
              show rG _ _ _ _ _ _ [] _
              refine ag_goto (tgt := 215) dX10_unary_182 rfl ?_
              exact ag_ret (v := none) dX10_unary_215 rfl ⟨_, rfl, _, rfl, h⟩ rfl
theorem dX10_choose_0 : decode cX10_choose 0 = .ok (.aload_n 0, 1) := by decide +kernel
theorem dX10_choose_1 : decode cX10_choose 1 = .ok (.getfield 357, 3) := by decide +kernel
theorem dX10_choose_4 : decode cX10_choose 4 = .ok (.iconst 1, 1) := by decide +kernel
theorem dX10_choose_5 : decode cX10_choose 5 = .ok (.if_icmp .eq 7, 3) := by decide +kernel
theorem dX10_choose_8 : decode cX10_choose 8 = .ok (.iconst 1, 1) := by decide +kernel
theorem dX10_choose_9 : decode cX10_choose 9 = .ok (.goto 4, 3) := by decide +kernel
theorem dX10_choose_12 : decode cX10_choose 12 = .ok (.iconst 0, 1) := by decide +kernel
theorem dX10_choose_13 : decode cX10_choose 13 = .ok (.istore 4, 2) := by decide +kernel
theorem dX10_choose_15 : decode cX10_choose 15 = .ok (.aload_n 0, 1) := by decide +kernel
theorem dX10_choose_16 : decode cX10_choose 16 = .ok (.getfield 17, 3) := by decide +kernel
theorem dX10_choose_19 : decode cX10_choose 19 = .ok (.iload_n 1, 1) := by decide +kernel
theorem dX10_choose_20 : decode cX10_choose 20 = .ok (.iaload, 1) := by decide +kernel
theorem dX10_choose_21 : decode cX10_choose 21 = .ok (.istore 5, 2) := by decide +kernel
theorem dX10_choose_23 : decode cX10_choose 23 = .ok (.iload_n 2, 1) := by decide +kernel
theorem dX10_choose_24 : decode cX10_choose 24 = .ok (.iconst 1, 1) := by decide +kernel
theorem dX10_choose_25 : decode cX10_choose 25 = .ok (.if_icmp .le 14, 3) := by decide +kernel
theorem dX10_choose_28 : decode cX10_choose 28 = .ok (.aload_n 0, 1) := by decide +kernel
theorem dX10_choose_29 : decode cX10_choose 29 = .ok (.aload_n 0, 1) := by decide +kernel
theorem dX10_choose_30 : decode cX10_choose 30 = .ok (.getfield 357, 3) := by decide +kernel
theorem dX10_choose_33 : decode cX10_choose 33 = .ok (.invokevirtual 378, 3) := by decide +kernel
theorem dX10_choose_36 : decode cX10_choose 36 = .ok (.goto 75, 3) := by decide +kernel
theorem dX10_choose_39 : decode cX10_choose 39 = .ok (.iload 5, 2) := by decide +kernel
theorem dX10_choose_41 : decode cX10_choose 41 = .ok (.bipush 38, 2) := by decide +kernel
theorem dX10_choose_43 : decode cX10_choose 43 = .ok (.if_icmp .ne 8, 3) := by decide +kernel
theorem dX10_choose_46 : decode cX10_choose 46 = .ok (.iload 4, 2) := by decide +kernel
theorem dX10_choose_48 : decode cX10_choose 48 = .ok (.ifCond .eq 15, 3) := by decide +kernel
theorem dX10_choose_51 : decode cX10_choose 51 = .ok (.iload 5, 2) := by decide +kernel
theorem dX10_choose_53 : decode cX10_choose 53 = .ok (.bipush 124, 2) := by decide +kernel
theorem dX10_choose_55 : decode cX10_choose 55 = .ok (.if_icmp .ne 19, 3) := by decide +kernel
theorem dX10_choose_58 : decode cX10_choose 58 = .ok (.iload 4, 2) := by decide +kernel
theorem dX10_choose_60 : decode cX10_choose 60 = .ok (.ifCond .eq 14, 3) := by decide +kernel
theorem dX10_choose_63 : decode cX10_choose 63 = .ok (.aload_n 0, 1) := by decide +kernel
theorem dX10_choose_64 : decode cX10_choose 64 = .ok (.aload_n 0, 1) := by decide +kernel
theorem dX10_choose_65 : decode cX10_choose 65 = .ok (.getfield 357, 3) := by decide +kernel
theorem dX10_choose_68 : decode cX10_choose 68 = .ok (.invokevirtual 378, 3) := by decide +kernel
theorem dX10_choose_71 : decode cX10_choose 71 = .ok (.goto 40, 3) := by decide +kernel
theorem dX10_choose_74 : decode cX10_choose 74 = .ok (.iload 5, 2) := by decide +kernel
theorem dX10_choose_76 : decode cX10_choose 76 = .ok (.bipush 63, 2) := by decide +kernel
theorem dX10_choose_78 : decode cX10_choose 78 = .ok (.if_icmp .ne 22, 3) := by decide +kernel
theorem dX10_choose_81 : decode cX10_choose 81 = .ok (.iload 4, 2) := by decide +kernel
theorem dX10_choose_83 : decode cX10_choose 83 = .ok (.ifCond .ne 17, 3) := by decide +kernel
theorem dX10_choose_86 : decode cX10_choose 86 = .ok (.aload_n 0, 1) := by decide +kernel
theorem dX10_choose_87 : decode cX10_choose 87 = .ok (.aload_n 0, 1) := by decide +kernel
theorem dX10_choose_88 : decode cX10_choose 88 = .ok (.getfield 26, 3) := by decide +kernel
theorem dX10_choose_91 : decode cX10_choose 91 = .ok (.iload_n 1, 1) := by decide +kernel
theorem dX10_choose_92 : decode cX10_choose 92 = .ok (.iaload, 1) := by decide +kernel
theorem dX10_choose_93 : decode cX10_choose 93 = .ok (.iload_n 3, 1) := by decide +kernel
theorem dX10_choose_94 : decode cX10_choose 94 = .ok (.invokevirtual 366, 3) := by decide +kernel
theorem dX10_choose_97 : decode cX10_choose 97 = .ok (.goto 14, 3) := by decide +kernel
theorem dX10_choose_100 : decode cX10_choose 100 = .ok (.aload_n 0, 1) := by decide +kernel
theorem dX10_choose_101 : decode cX10_choose 101 = .ok (.aload_n 0, 1) := by decide +kernel
theorem dX10_choose_102 : decode cX10_choose 102 = .ok (.getfield 23, 3) := by decide +kernel
theorem dX10_choose_105 : decode cX10_choose 105 = .ok (.iload_n 1, 1) := by decide +kernel
theorem dX10_choose_106 : decode cX10_choose 106 = .ok (.iaload, 1) := by decide +kernel
theorem dX10_choose_107 : decode cX10_choose 107 = .ok (.iload_n 3, 1) := by decide +kernel
theorem dX10_choose_108 : decode cX10_choose 108 = .ok (.invokevirtual 366, 3) := by decide +kernel
theorem dX10_choose_111 : decode cX10_choose 111 = .ok (.return_, 1) := by decide +kernel
set_option maxRecDepth 20000 in
set_option maxHeartbeats 4000000 in
theorem w_X10_choose {c : rX} {d : Nat} {S : rS} {K : Option Value → rS → Prop} (ho : rOK c) (p0 : Int32) (p1 : Int32) (p2 : Int32) (h : ((S.1 50 0) = 1 → (rG c eX10_choose (d + 1) (rQ c K) 13 [some (.ref c.2.2.1), some (.int p0), some (.int p1), some (.int p2), none, none] [.int 0] S)) ∧ (¬ (S.1 50 0) = 1 → (rG c eX10_choose (d + 1) (rQ c K) 13 [some (.ref c.2.2.1), some (.int p0), some (.int p1), some (.int p2), none, none] [.int 1] S))) : rM c (d + 1) eX10_choose [.ref c.2.2.1, .int p0, .int p1, .int p2] S K := by
  refine rM.of (by decide) (Nat.le_of_ble_eq_true rfl) ?_
  show rG c eX10_choose (d + 1) (rQ c K) 0 [some (.ref c.2.2.1), some (.int p0), some (.int p1), some (.int p2), none, none] [] S
  refine ag_aload_n dX10_choose_0 rfl (Or.inr ⟨_, rfl⟩) ?_
  refine rr_get (v := .int (S.1 50 0)) ho dX10_choose_1 fw_10_357 rfl ?_
  refine ag_iconst (v := 1) dX10_choose_4 rfl ?_
  refine ag_icmp_eq (tgt := 12) dX10_choose_5 rfl (fun hc1 => ?_) (fun hc1 => ?_)
  · have h := h.1 hc1
    refine ag_iconst (v := 0) dX10_choose_12 rfl ?_
    exact h
  · have h := h.2 hc1
    refine ag_iconst (v := 1) dX10_choose_8 rfl ?_
    refine ag_goto (tgt := 13) dX10_choose_9 rfl ?_
    exact h
set_option maxRecDepth 20000 in
set_option maxHeartbeats 4000000 in
theorem w_X10_choose_13 {c : rX} {d : Nat} {S : rS} {K : Option Value → rS → Prop} (ho : rOK c) (v1 : Int32) (v2 : Int32) (v3 : Int32) (s0 : Int32) (h : ∃ j1 : Nat, am_ix v1 j1 320 ∧ ((v2 ≤ 1 → ((¬ (S.1 4 j1) = 38 → (rG c eX10_choose (d + 1) (rQ c K) 51 [some (.ref c.2.2.1), some (.int v1), none, some (.int v3), some (.int s0), some (.int (S.1 4 j1))] [] S)) ∧ ((S.1 4 j1) = 38 → ((s0 = 0 → (rM c d eX10_end (.ref c.2.2.1 :: [.int (S.1 50 0)]) S (fun v S6 => v = none ∧ (K none S6)))) ∧ (¬ s0 = 0 → (rG c eX10_choose (d + 1) (rQ c K) 51 [some (.ref c.2.2.1), some (.int v1), none, some (.int v3), some (.int s0), some (.int (S.1 4 j1))] [] S)))))) ∧ (¬ v2 ≤ 1 → (rM c d eX10_end (.ref c.2.2.1 :: [.int (S.1 50 0)]) S (fun v S8 => v = none ∧ (K none S8)))))) : rG c eX10_choose (d + 1) (rQ c K) 13 [some (.ref c.2.2.1), some (.int v1), some (.int v2), some (.int v3), none, none] [.int s0] S := by
  refine ag_istore (lv2 := [some (.ref c.2.2.1), some (.int v1), some (.int v2), some (.int v3), some (.int s0), none]) dX10_choose_13 (Nat.le_of_ble_eq_true rfl) rfl ?_
  refine ag_aload_n dX10_choose_15 rfl (Or.inr ⟨_, rfl⟩) ?_
  refine rr_get (v := .ref (c.2.2.1 + (1 + 1))) ho dX10_choose_16 fw_10_17 rfl ?_
  refine ag_iload_n dX10_choose_19 rfl ?_
  obtain ⟨j1, hj2, h⟩ := h
  refine rr_il (v := S.1 4 j1) ho dX10_choose_20 (k := 1) (f := 4) rfl hj2 rfl ?_
  refine ag_istore (lv2 := [some (.ref c.2.2.1), some (.int v1), some (.int v2), some (.int v3), some (.int s0), some (.int (S.1 4 j1))]) dX10_choose_21 (Nat.le_of_ble_eq_true rfl) rfl ?_
  refine ag_iload_n dX10_choose_23 rfl ?_
  refine ag_iconst (v := 1) dX10_choose_24 rfl ?_
  refine ag_icmp_le (tgt := 39) dX10_choose_25 rfl (fun hc3 => ?_) (fun hc3 => ?_)
  · have h := h.1 hc3
    refine ag_iload dX10_choose_39 rfl ?_
    refine ag_bipush (v := 38) dX10_choose_41 (by decide) ?_
    refine ag_icmp_ne (tgt := 51) dX10_choose_43 rfl (fun hc4 => ?_) (fun hc4 => ?_)
    · have h := h.1 hc4
      refine ag_drop 2 ?_
      exact h
    · have h := h.2 hc4
      refine ag_iload dX10_choose_46 rfl ?_
      refine ag_if_eq (tgt := 63) dX10_choose_48 rfl (fun hc5 => ?_) (fun hc5 => ?_)
      · have h := h.1 hc5
        refine ag_aload_n dX10_choose_63 rfl (Or.inr ⟨_, rfl⟩) ?_
        refine ag_aload_n dX10_choose_64 rfl (Or.inr ⟨_, rfl⟩) ?_
        refine rr_get (v := .int (S.1 50 0)) ho dX10_choose_65 fw_10_357 rfl ?_
        refine rr_call (as := [.int (S.1 50 0)]) (rest := []) ho dX10_choose_68 me_X10_end mi_X10_end lk_10_378 rfl rfl (Nat.le_of_ble_eq_true rfl) ?_
        refine rM.mono h ?_
        rintro v S6 ⟨rfl, h⟩
        show rG _ _ _ _ _ _ [] _
        refine ag_goto (tgt := 111) dX10_choose_71 rfl ?_
        exact ag_ret (v := none) dX10_choose_111 rfl ⟨_, rfl, _, rfl, h⟩ rfl
      · have h := h.2 hc5
        refine ag_drop 2 ?_
        exact h
  · have h := h.2 hc3
    refine ag_aload_n dX10_choose_28 rfl (Or.inr ⟨_, rfl⟩) ?_
    refine ag_aload_n dX10_choose_29 rfl (Or.inr ⟨_, rfl⟩) ?_
    refine rr_get (v := .int (S.1 50 0)) ho dX10_choose_30 fw_10_357 rfl ?_
    refine rr_call (as := [.int (S.1 50 0)]) (rest := []) ho dX10_choose_33 me_X10_end mi_X10_end lk_10_378 rfl rfl (Nat.le_of_ble_eq_true rfl) ?_
    refine rM.mono h ?_
    rintro v S8 ⟨rfl, h⟩
    show rG _ _ _ _ _ _ [] _
    refine ag_goto (tgt := 111) dX10_choose_36 rfl ?_
    exact ag_ret (v := none) dX10_choose_111 rfl ⟨_, rfl, _, rfl, h⟩ rfl
set_option maxRecDepth 20000 in
set_option maxHeartbeats 4000000 in
theorem w_X10_choose_51 {c : rX} {d : Nat} {S : rS} {K : Option Value → rS → Prop} (ho : rOK c) (v1 : Int32) (v3 : Int32) (v4 : Int32) (v5 : Int32) (h : (¬ v5 = 124 → (rG c eX10_choose (d + 1) (rQ c K) 74 [some (.ref c.2.2.1), some (.int v1), none, some (.int v3), some (.int v4), some (.int v5)] [] S)) ∧ (v5 = 124 → ((v4 = 0 → (rG c eX10_choose (d + 1) (rQ c K) 74 [some (.ref c.2.2.1), some (.int v1), none, some (.int v3), some (.int v4), some (.int v5)] [] S)) ∧ (¬ v4 = 0 → (rM c d eX10_end (.ref c.2.2.1 :: [.int (S.1 50 0)]) S (fun v S3 => v = none ∧ (K none S3))))))) : rG c eX10_choose (d + 1) (rQ c K) 51 [some (.ref c.2.2.1), some (.int v1), none, some (.int v3), some (.int v4), some (.int v5)] [] S := by
  refine ag_iload dX10_choose_51 rfl ?_
  refine ag_bipush (v := 124) dX10_choose_53 (by decide) ?_
  refine ag_icmp_ne (tgt := 74) dX10_choose_55 rfl (fun hc1 => ?_) (fun hc1 => ?_)
  · have h := h.1 hc1
    exact h
  · have h := h.2 hc1
    refine ag_iload dX10_choose_58 rfl ?_
    refine ag_if_eq (tgt := 74) dX10_choose_60 rfl (fun hc2 => ?_) (fun hc2 => ?_)
    · have h := h.1 hc2
      exact h
    · have h := h.2 hc2
      refine ag_aload_n dX10_choose_63 rfl (Or.inr ⟨_, rfl⟩) ?_
      refine ag_aload_n dX10_choose_64 rfl (Or.inr ⟨_, rfl⟩) ?_
      refine rr_get (v := .int (S.1 50 0)) ho dX10_choose_65 fw_10_357 rfl ?_
      refine rr_call (as := [.int (S.1 50 0)]) (rest := []) ho dX10_choose_68 me_X10_end mi_X10_end lk_10_378 rfl rfl (Nat.le_of_ble_eq_true rfl) ?_
      refine rM.mono h ?_
      rintro v S3 ⟨rfl, h⟩
      show rG _ _ _ _ _ _ [] _
      refine ag_goto (tgt := 111) dX10_choose_71 rfl ?_
      exact ag_ret (v := none) dX10_choose_111 rfl ⟨_, rfl, _, rfl, h⟩ rfl
set_option maxRecDepth 20000 in
set_option maxHeartbeats 4000000 in
theorem w_X10_choose_74 {c : rX} {d : Nat} {S : rS} {K : Option Value → rS → Prop} (ho : rOK c) (v1 : Int32) (v3 : Int32) (v4 : Int32) (v5 : Int32) (h : (¬ v5 = 63 → (∃ j2 : Nat, am_ix v1 j2 320 ∧ (rM c d eX10_begin (.ref c.2.2.1 :: [.int (S.1 6 j2), .int v3]) S (fun v S4 => v = none ∧ (K none S4))))) ∧ (v5 = 63 → ((¬ v4 = 0 → (∃ j7 : Nat, am_ix v1 j7 320 ∧ (rM c d eX10_begin (.ref c.2.2.1 :: [.int (S.1 6 j7), .int v3]) S (fun v S9 => v = none ∧ (K none S9))))) ∧ (v4 = 0 → (∃ j11 : Nat, am_ix v1 j11 320 ∧ (rM c d eX10_begin (.ref c.2.2.1 :: [.int (S.1 7 j11), .int v3]) S (fun v S13 => v = none ∧ (K none S13)))))))) : rG c eX10_choose (d + 1) (rQ c K) 74 [some (.ref c.2.2.1), some (.int v1), none, some (.int v3), some (.int v4), some (.int v5)] [] S := by
  refine ag_iload dX10_choose_74 rfl ?_
  refine ag_bipush (v := 63) dX10_choose_76 (by decide) ?_
  refine ag_icmp_ne (tgt := 100) dX10_choose_78 rfl (fun hc1 => ?_) (fun hc1 => ?_)
  · have h := h.1 hc1
    refine ag_aload_n dX10_choose_100 rfl (Or.inr ⟨_, rfl⟩) ?_
    refine ag_aload_n dX10_choose_101 rfl (Or.inr ⟨_, rfl⟩) ?_
    refine rr_get (v := .ref (c.2.2.1 + (3 + 1))) ho dX10_choose_102 fw_10_23 rfl ?_
    refine ag_iload_n dX10_choose_105 rfl ?_
    obtain ⟨j2, hj3, h⟩ := h
    refine rr_il (v := S.1 6 j2) ho dX10_choose_106 (k := 3) (f := 6) rfl hj3 rfl ?_
    refine ag_iload_n dX10_choose_107 rfl ?_
    refine rr_call (as := [.int (S.1 6 j2), .int v3]) (rest := []) ho dX10_choose_108 me_X10_begin mi_X10_begin lk_10_366 rfl rfl (Nat.le_of_ble_eq_true rfl) ?_
    refine rM.mono h ?_
    rintro v S4 ⟨rfl, h⟩
    show rG _ _ _ _ _ _ [] _
    exact ag_ret (v := none) dX10_choose_111 rfl ⟨_, rfl, _, rfl, h⟩ rfl
  · have h := h.2 hc1
    refine ag_iload dX10_choose_81 rfl ?_
    refine ag_if_ne (tgt := 100) dX10_choose_83 rfl (fun hc6 => ?_) (fun hc6 => ?_)
    · have h := h.1 hc6
      refine ag_aload_n dX10_choose_100 rfl (Or.inr ⟨_, rfl⟩) ?_
      refine ag_aload_n dX10_choose_101 rfl (Or.inr ⟨_, rfl⟩) ?_
      refine rr_get (v := .ref (c.2.2.1 + (3 + 1))) ho dX10_choose_102 fw_10_23 rfl ?_
      refine ag_iload_n dX10_choose_105 rfl ?_
      obtain ⟨j7, hj8, h⟩ := h
      refine rr_il (v := S.1 6 j7) ho dX10_choose_106 (k := 3) (f := 6) rfl hj8 rfl ?_
      refine ag_iload_n dX10_choose_107 rfl ?_
      refine rr_call (as := [.int (S.1 6 j7), .int v3]) (rest := []) ho dX10_choose_108 me_X10_begin mi_X10_begin lk_10_366 rfl rfl (Nat.le_of_ble_eq_true rfl) ?_
      refine rM.mono h ?_
      rintro v S9 ⟨rfl, h⟩
      show rG _ _ _ _ _ _ [] _
      exact ag_ret (v := none) dX10_choose_111 rfl ⟨_, rfl, _, rfl, h⟩ rfl
    · have h := h.2 hc6
      refine ag_aload_n dX10_choose_86 rfl (Or.inr ⟨_, rfl⟩) ?_
      refine ag_aload_n dX10_choose_87 rfl (Or.inr ⟨_, rfl⟩) ?_
      refine rr_get (v := .ref (c.2.2.1 + (4 + 1))) ho dX10_choose_88 fw_10_26 rfl ?_
      refine ag_iload_n dX10_choose_91 rfl ?_
      obtain ⟨j11, hj12, h⟩ := h
      refine rr_il (v := S.1 7 j11) ho dX10_choose_92 (k := 4) (f := 7) rfl hj12 rfl ?_
      refine ag_iload_n dX10_choose_93 rfl ?_
      refine rr_call (as := [.int (S.1 7 j11), .int v3]) (rest := []) ho dX10_choose_94 me_X10_begin mi_X10_begin lk_10_366 rfl rfl (Nat.le_of_ble_eq_true rfl) ?_
      refine rM.mono h ?_
      rintro v S13 ⟨rfl, h⟩
      show rG _ _ _ _ _ _ [] _
      refine ag_goto (tgt := 111) dX10_choose_97 rfl ?_
      exact ag_ret (v := none) dX10_choose_111 rfl ⟨_, rfl, _, rfl, h⟩ rfl
theorem dX10_binary_0 : decode cX10_binary 0 = .ok (.aload_n 0, 1) := by decide +kernel
theorem dX10_binary_1 : decode cX10_binary 1 = .ok (.getfield 17, 3) := by decide +kernel
theorem dX10_binary_4 : decode cX10_binary 4 = .ok (.iload_n 1, 1) := by decide +kernel
theorem dX10_binary_5 : decode cX10_binary 5 = .ok (.iaload, 1) := by decide +kernel
theorem dX10_binary_6 : decode cX10_binary 6 = .ok (.istore 4, 2) := by decide +kernel
theorem dX10_binary_8 : decode cX10_binary 8 = .ok (.iload 4, 2) := by decide +kernel
theorem dX10_binary_10 : decode cX10_binary 10 = .ok (.bipush 67, 2) := by decide +kernel
theorem dX10_binary_12 : decode cX10_binary 12 = .ok (.if_icmp .eq 31, 3) := by decide +kernel
theorem dX10_binary_15 : decode cX10_binary 15 = .ok (.aload_n 0, 1) := by decide +kernel
theorem dX10_binary_16 : decode cX10_binary 16 = .ok (.getfield 106, 3) := by decide +kernel
theorem dX10_binary_19 : decode cX10_binary 19 = .ok (.iload_n 2, 1) := by decide +kernel
theorem dX10_binary_20 : decode cX10_binary 20 = .ok (.iaload, 1) := by decide +kernel
theorem dX10_binary_21 : decode cX10_binary 21 = .ok (.iconst 1, 1) := by decide +kernel
theorem dX10_binary_22 : decode cX10_binary 22 = .ok (.if_icmp .ne 13, 3) := by decide +kernel
theorem dX10_binary_25 : decode cX10_binary 25 = .ok (.aload_n 0, 1) := by decide +kernel
theorem dX10_binary_26 : decode cX10_binary 26 = .ok (.getfield 106, 3) := by decide +kernel
theorem dX10_binary_29 : decode cX10_binary 29 = .ok (.iload_n 3, 1) := by decide +kernel
theorem dX10_binary_30 : decode cX10_binary 30 = .ok (.iaload, 1) := by decide +kernel
theorem dX10_binary_31 : decode cX10_binary 31 = .ok (.iconst 1, 1) := by decide +kernel
theorem dX10_binary_32 : decode cX10_binary 32 = .ok (.if_icmp .eq 11, 3) := by decide +kernel
theorem dX10_binary_35 : decode cX10_binary 35 = .ok (.aload_n 0, 1) := by decide +kernel
theorem dX10_binary_36 : decode cX10_binary 36 = .ok (.iconst 2, 1) := by decide +kernel
theorem dX10_binary_37 : decode cX10_binary 37 = .ok (.invokevirtual 388, 3) := by decide +kernel
theorem dX10_binary_40 : decode cX10_binary 40 = .ok (.goto 123, 3) := by decide +kernel
theorem dX10_binary_43 : decode cX10_binary 43 = .ok (.iload 4, 2) := by decide +kernel
theorem dX10_binary_45 : decode cX10_binary 45 = .ok (.bipush 60, 2) := by decide +kernel
theorem dX10_binary_47 : decode cX10_binary 47 = .ok (.if_icmp .ne 33, 3) := by decide +kernel
theorem dX10_binary_50 : decode cX10_binary 50 = .ok (.aload_n 0, 1) := by decide +kernel
theorem dX10_binary_51 : decode cX10_binary 51 = .ok (.aload_n 0, 1) := by decide +kernel
theorem dX10_binary_52 : decode cX10_binary 52 = .ok (.getfield 109, 3) := by decide +kernel
theorem dX10_binary_55 : decode cX10_binary 55 = .ok (.iload_n 2, 1) := by decide +kernel
theorem dX10_binary_56 : decode cX10_binary 56 = .ok (.iaload, 1) := by decide +kernel
theorem dX10_binary_57 : decode cX10_binary 57 = .ok (.aload_n 0, 1) := by decide +kernel
theorem dX10_binary_58 : decode cX10_binary 58 = .ok (.getfield 109, 3) := by decide +kernel
theorem dX10_binary_61 : decode cX10_binary 61 = .ok (.iload_n 3, 1) := by decide +kernel
theorem dX10_binary_62 : decode cX10_binary 62 = .ok (.iaload, 1) := by decide +kernel
theorem dX10_binary_63 : decode cX10_binary 63 = .ok (.if_icmp .ge 7, 3) := by decide +kernel
theorem dX10_binary_66 : decode cX10_binary 66 = .ok (.iconst 1, 1) := by decide +kernel
theorem dX10_binary_67 : decode cX10_binary 67 = .ok (.goto 4, 3) := by decide +kernel
theorem dX10_binary_70 : decode cX10_binary 70 = .ok (.iconst 0, 1) := by decide +kernel
theorem dX10_binary_71 : decode cX10_binary 71 = .ok (.invokestatic 384, 3) := by decide +kernel
theorem dX10_binary_74 : decode cX10_binary 74 = .ok (.invokevirtual 378, 3) := by decide +kernel
theorem dX10_binary_77 : decode cX10_binary 77 = .ok (.goto 86, 3) := by decide +kernel
theorem dX10_binary_80 : decode cX10_binary 80 = .ok (.aload_n 0, 1) := by decide +kernel
theorem dX10_binary_81 : decode cX10_binary 81 = .ok (.getfield 103, 3) := by decide +kernel
theorem dX10_binary_84 : decode cX10_binary 84 = .ok (.bipush 64, 2) := by decide +kernel
theorem dX10_binary_86 : decode cX10_binary 86 = .ok (.if_icmp .ne 11, 3) := by decide +kernel
theorem dX10_binary_89 : decode cX10_binary 89 = .ok (.aload_n 0, 1) := by decide +kernel
theorem dX10_binary_90 : decode cX10_binary 90 = .ok (.iconst 3, 1) := by decide +kernel
theorem dX10_binary_91 : decode cX10_binary 91 = .ok (.invokevirtual 388, 3) := by decide +kernel
theorem dX10_binary_94 : decode cX10_binary 94 = .ok (.goto 69, 3) := by decide +kernel
theorem dX10_binary_97 : decode cX10_binary 97 = .ok (.aload_n 0, 1) := by decide +kernel
theorem dX10_binary_98 : decode cX10_binary 98 = .ok (.iload 4, 2) := by decide +kernel
theorem dX10_binary_100 : decode cX10_binary 100 = .ok (.bipush 67, 2) := by decide +kernel
theorem dX10_binary_102 : decode cX10_binary 102 = .ok (.if_icmp .ne 15, 3) := by decide +kernel
theorem dX10_binary_105 : decode cX10_binary 105 = .ok (.aload_n 0, 1) := by decide +kernel
theorem dX10_binary_106 : decode cX10_binary 106 = .ok (.bipush 16, 2) := by decide +kernel
theorem dX10_binary_108 : decode cX10_binary 108 = .ok (.iconst 0, 1) := by decide +kernel
theorem dX10_binary_109 : decode cX10_binary 109 = .ok (.iload_n 2, 1) := by decide +kernel
theorem dX10_binary_110 : decode cX10_binary 110 = .ok (.iload_n 3, 1) := by decide +kernel
theorem dX10_binary_111 : decode cX10_binary 111 = .ok (.invokevirtual 347, 3) := by decide +kernel
theorem dX10_binary_114 : decode cX10_binary 114 = .ok (.goto 46, 3) := by decide +kernel
theorem dX10_binary_117 : decode cX10_binary 117 = .ok (.aload_n 0, 1) := by decide +kernel
theorem dX10_binary_118 : decode cX10_binary 118 = .ok (.iconst 1, 1) := by decide +kernel
theorem dX10_binary_119 : decode cX10_binary 119 = .ok (.iload 4, 2) := by decide +kernel
theorem dX10_binary_121 : decode cX10_binary 121 = .ok (.bipush 43, 2) := by decide +kernel
theorem dX10_binary_123 : decode cX10_binary 123 = .ok (.if_icmp .ne 19, 3) := by decide +kernel
theorem dX10_binary_126 : decode cX10_binary 126 = .ok (.aload_n 0, 1) := by decide +kernel
theorem dX10_binary_127 : decode cX10_binary 127 = .ok (.getfield 109, 3) := by decide +kernel
theorem dX10_binary_130 : decode cX10_binary 130 = .ok (.iload_n 2, 1) := by decide +kernel
theorem dX10_binary_131 : decode cX10_binary 131 = .ok (.iaload, 1) := by decide +kernel
theorem dX10_binary_132 : decode cX10_binary 132 = .ok (.aload_n 0, 1) := by decide +kernel
theorem dX10_binary_133 : decode cX10_binary 133 = .ok (.getfield 109, 3) := by decide +kernel
theorem dX10_binary_136 : decode cX10_binary 136 = .ok (.iload_n 3, 1) := by decide +kernel
theorem dX10_binary_137 : decode cX10_binary 137 = .ok (.iaload, 1) := by decide +kernel
theorem dX10_binary_138 : decode cX10_binary 138 = .ok (.iadd, 1) := by decide +kernel
theorem dX10_binary_139 : decode cX10_binary 139 = .ok (.goto 16, 3) := by decide +kernel
theorem dX10_binary_142 : decode cX10_binary 142 = .ok (.aload_n 0, 1) := by decide +kernel
theorem dX10_binary_143 : decode cX10_binary 143 = .ok (.getfield 109, 3) := by decide +kernel
theorem dX10_binary_146 : decode cX10_binary 146 = .ok (.iload_n 2, 1) := by decide +kernel
theorem dX10_binary_147 : decode cX10_binary 147 = .ok (.iaload, 1) := by decide +kernel
theorem dX10_binary_148 : decode cX10_binary 148 = .ok (.aload_n 0, 1) := by decide +kernel
theorem dX10_binary_149 : decode cX10_binary 149 = .ok (.getfield 109, 3) := by decide +kernel
theorem dX10_binary_152 : decode cX10_binary 152 = .ok (.iload_n 3, 1) := by decide +kernel
theorem dX10_binary_153 : decode cX10_binary 153 = .ok (.iaload, 1) := by decide +kernel
theorem dX10_binary_154 : decode cX10_binary 154 = .ok (.isub, 1) := by decide +kernel
theorem dX10_binary_155 : decode cX10_binary 155 = .ok (.iconst (-1), 1) := by decide +kernel
theorem dX10_binary_156 : decode cX10_binary 156 = .ok (.iconst (-1), 1) := by decide +kernel
theorem dX10_binary_157 : decode cX10_binary 157 = .ok (.invokevirtual 347, 3) := by decide +kernel
theorem dX10_binary_160 : decode cX10_binary 160 = .ok (.invokevirtual 378, 3) := by decide +kernel
theorem dX10_binary_163 : decode cX10_binary 163 = .ok (.return_, 1) := by decide +kernel
set_option maxRecDepth 20000 in
set_option maxHeartbeats 4000000 in
theorem w_X10_binary {c : rX} {d : Nat} {S : rS} {K : Option Value → rS → Prop} (ho : rOK c) (p0 : Int32) (p1 : Int32) (p2 : Int32) (h : ∃ j1 : Nat, am_ix p0 j1 320 ∧ (((S.1 4 j1) = 67 → (rG c eX10_binary (d + 1) (rQ c K) 43 [some (.ref c.2.2.1), none, some (.int p1), some (.int p2), some (.int (S.1 4 j1))] [] S)) ∧ (¬ (S.1 4 j1) = 67 → (∃ j4 : Nat, am_ix p1 j4 64 ∧ ((¬ (S.1 41 j4) = 1 → (rM c d eX10_stop (.ref c.2.2.1 :: [.int 2]) S (fun v S7 => v = none ∧ (K none S7)))) ∧ ((S.1 41 j4) = 1 → (∃ j9 : Nat, am_ix p2 j9 64 ∧ (((S.1 41 j9) = 1 → (rG c eX10_binary (d + 1) (rQ c K) 43 [some (.ref c.2.2.1), none, some (.int p1), some (.int p2), some (.int (S.1 4 j1))] [] S)) ∧ (¬ (S.1 41 j9) = 1 → (rM c d eX10_stop (.ref c.2.2.1 :: [.int 2]) S (fun v S12 => v = none ∧ (K none S12)))))))))))) : rM c (d + 1) eX10_binary [.ref c.2.2.1, .int p0, .int p1, .int p2] S K := by
  refine rM.of (by decide) (Nat.le_of_ble_eq_true rfl) ?_
  show rG c eX10_binary (d + 1) (rQ c K) 0 [some (.ref c.2.2.1), some (.int p0), some (.int p1), some (.int p2), none] [] S
  refine ag_aload_n dX10_binary_0 rfl (Or.inr ⟨_, rfl⟩) ?_
  refine rr_get (v := .ref (c.2.2.1 + (1 + 1))) ho dX10_binary_1 fw_10_17 rfl ?_
  refine ag_iload_n dX10_binary_4 rfl ?_
  obtain ⟨j1, hj2, h⟩ := h
  refine rr_il (v := S.1 4 j1) ho dX10_binary_5 (k := 1) (f := 4) rfl hj2 rfl ?_
  refine ag_istore (lv2 := [some (.ref c.2.2.1), some (.int p0), some (.int p1), some (.int p2), some (.int (S.1 4 j1))]) dX10_binary_6 (Nat.le_of_ble_eq_true rfl) rfl ?_
  refine ag_iload dX10_binary_8 rfl ?_
  refine ag_bipush (v := 67) dX10_binary_10 (by decide) ?_
  refine ag_icmp_eq (tgt := 43) dX10_binary_12 rfl (fun hc3 => ?_) (fun hc3 => ?_)
  · have h := h.1 hc3
    refine ag_drop 1 ?_
    exact h
  · have h := h.2 hc3
    refine ag_aload_n dX10_binary_15 rfl (Or.inr ⟨_, rfl⟩) ?_
    refine rr_get (v := .ref (c.2.2.1 + (29 + 1))) ho dX10_binary_16 fw_10_106 rfl ?_
    refine ag_iload_n dX10_binary_19 rfl ?_
    obtain ⟨j4, hj5, h⟩ := h
    refine rr_il (v := S.1 41 j4) ho dX10_binary_20 (k := 29) (f := 41) rfl hj5 rfl ?_
    refine ag_iconst (v := 1) dX10_binary_21 rfl ?_
    refine ag_icmp_ne (tgt := 35) dX10_binary_22 rfl (fun hc6 => ?_) (fun hc6 => ?_)
    · have h := h.1 hc6
      refine ag_aload_n dX10_binary_35 rfl (Or.inr ⟨_, rfl⟩) ?_
      refine ag_iconst (v := 2) dX10_binary_36 rfl ?_
      refine rr_call (as := [.int 2]) (rest := []) ho dX10_binary_37 me_X10_stop mi_X10_stop lk_10_388 rfl rfl (Nat.le_of_ble_eq_true rfl) ?_
      refine rM.mono h ?_
      rintro v S7 ⟨rfl, h⟩
      show rG _ _ _ _ _ _ [] _
      refine ag_goto (tgt := 163) dX10_binary_40 rfl ?_
      exact ag_ret (v := none) dX10_binary_163 rfl ⟨_, rfl, _, rfl, h⟩ rfl
    · have h := h.2 hc6
      refine ag_aload_n dX10_binary_25 rfl (Or.inr ⟨_, rfl⟩) ?_
      refine rr_get (v := .ref (c.2.2.1 + (29 + 1))) ho dX10_binary_26 fw_10_106 rfl ?_
      refine ag_iload_n dX10_binary_29 rfl ?_
      obtain ⟨j9, hj10, h⟩ := h
      refine rr_il (v := S.1 41 j9) ho dX10_binary_30 (k := 29) (f := 41) rfl hj10 rfl ?_
      refine ag_iconst (v := 1) dX10_binary_31 rfl ?_
      refine ag_icmp_eq (tgt := 43) dX10_binary_32 rfl (fun hc11 => ?_) (fun hc11 => ?_)
      · have h := h.1 hc11
        refine ag_drop 1 ?_
        exact h
      · have h := h.2 hc11
        refine ag_aload_n dX10_binary_35 rfl (Or.inr ⟨_, rfl⟩) ?_
        refine ag_iconst (v := 2) dX10_binary_36 rfl ?_
        refine rr_call (as := [.int 2]) (rest := []) ho dX10_binary_37 me_X10_stop mi_X10_stop lk_10_388 rfl rfl (Nat.le_of_ble_eq_true rfl) ?_
        refine rM.mono h ?_
        rintro v S12 ⟨rfl, h⟩
        show rG _ _ _ _ _ _ [] _
        refine ag_goto (tgt := 163) dX10_binary_40 rfl ?_
        exact ag_ret (v := none) dX10_binary_163 rfl ⟨_, rfl, _, rfl, h⟩ rfl
set_option maxRecDepth 20000 in
set_option maxHeartbeats 4000000 in
theorem w_X10_binary_43 {c : rX} {d : Nat} {S : rS} {K : Option Value → rS → Prop} (ho : rOK c) (v2 : Int32) (v3 : Int32) (v4 : Int32) (h : (¬ v4 = 60 → ((¬ (S.1 40 0) = 64 → ((¬ v4 = 67 → ((¬ v4 = 43 → (∃ j5 : Nat, am_ix v2 j5 64 ∧ (∃ j7 : Nat, am_ix v3 j7 64 ∧ (rM c d eX10_make (.ref c.2.2.1 :: [.int 1, .int ((S.1 42 j5) - (S.1 42 j7)), .int (-1), .int (-1)]) S (fun v S9 => ∃ z10 : Int32, v = some (.int z10) ∧ (rM c d eX10_end (.ref c.2.2.1 :: [.int z10]) S9 (fun v S11 => v = none ∧ (K none S11)))))))) ∧ (v4 = 43 → (∃ j13 : Nat, am_ix v2 j13 64 ∧ (∃ j15 : Nat, am_ix v3 j15 64 ∧ (rM c d eX10_make (.ref c.2.2.1 :: [.int 1, .int ((S.1 42 j13) + (S.1 42 j15)), .int (-1), .int (-1)]) S (fun v S17 => ∃ z18 : Int32, v = some (.int z18) ∧ (rM c d eX10_end (.ref c.2.2.1 :: [.int z18]) S17 (fun v S19 => v = none ∧ (K none S19)))))))))) ∧ (v4 = 67 → (rM c d eX10_make (.ref c.2.2.1 :: [.int 16, .int 0, .int v2, .int v3]) S (fun v S21 => ∃ z22 : Int32, v = some (.int z22) ∧ (rM c d eX10_end (.ref c.2.2.1 :: [.int z22]) S21 (fun v S23 => v = none ∧ (K none S23)))))))) ∧ ((S.1 40 0) = 64 → (rM c d eX10_stop (.ref c.2.2.1 :: [.int 3]) S (fun v S25 => v = none ∧ (K none S25)))))) ∧ (v4 = 60 → (∃ j27 : Nat, am_ix v2 j27 64 ∧ (∃ j29 : Nat, am_ix v3 j29 64 ∧ (((S.1 42 j29) ≤ (S.1 42 j27) → (rM c d eX10_truth [.int 0] S (fun v S32 => ∃ z33 : Int32, v = some (.int z33) ∧ (rM c d eX10_end (.ref c.2.2.1 :: [.int z33]) S32 (fun v S34 => v = none ∧ (K none S34)))))) ∧ (¬ (S.1 42 j29) ≤ (S.1 42 j27) → (rM c d eX10_truth [.int 1] S (fun v S36 => ∃ z37 : Int32, v = some (.int z37) ∧ (rM c d eX10_end (.ref c.2.2.1 :: [.int z37]) S36 (fun v S38 => v = none ∧ (K none S38))))))))))) : rG c eX10_binary (d + 1) (rQ c K) 43 [some (.ref c.2.2.1), none, some (.int v2), some (.int v3), some (.int v4)] [] S := by
  refine ag_iload dX10_binary_43 rfl ?_
  refine ag_bipush (v := 60) dX10_binary_45 (by decide) ?_
  refine ag_icmp_ne (tgt := 80) dX10_binary_47 rfl (fun hc1 => ?_) (fun hc1 => ?_)
  · have h := h.1 hc1
    refine ag_aload_n dX10_binary_80 rfl (Or.inr ⟨_, rfl⟩) ?_
    refine rr_get (v := .int (S.1 40 0)) ho dX10_binary_81 fw_10_103 rfl ?_
    refine ag_bipush (v := 64) dX10_binary_84 (by decide) ?_
    refine ag_icmp_ne (tgt := 97) dX10_binary_86 rfl (fun hc2 => ?_) (fun hc2 => ?_)
    · have h := h.1 hc2
      refine ag_aload_n dX10_binary_97 rfl (Or.inr ⟨_, rfl⟩) ?_
      refine ag_iload dX10_binary_98 rfl ?_
      refine ag_bipush (v := 67) dX10_binary_100 (by decide) ?_
      refine ag_icmp_ne (tgt := 117) dX10_binary_102 rfl (fun hc3 => ?_) (fun hc3 => ?_)
      · have h := h.1 hc3
        refine ag_aload_n dX10_binary_117 rfl (Or.inr ⟨_, rfl⟩) ?_
        refine ag_iconst (v := 1) dX10_binary_118 rfl ?_
        refine ag_iload dX10_binary_119 rfl ?_
        refine ag_bipush (v := 43) dX10_binary_121 (by decide) ?_
        refine ag_icmp_ne (tgt := 142) dX10_binary_123 rfl (fun hc4 => ?_) (fun hc4 => ?_)
        · have h := h.1 hc4
          refine ag_aload_n dX10_binary_142 rfl (Or.inr ⟨_, rfl⟩) ?_
          refine rr_get (v := .ref (c.2.2.1 + (30 + 1))) ho dX10_binary_143 fw_10_109 rfl ?_
          refine ag_iload_n dX10_binary_146 rfl ?_
          obtain ⟨j5, hj6, h⟩ := h
          refine rr_il (v := S.1 42 j5) ho dX10_binary_147 (k := 30) (f := 42) rfl hj6 rfl ?_
          refine ag_aload_n dX10_binary_148 rfl (Or.inr ⟨_, rfl⟩) ?_
          refine rr_get (v := .ref (c.2.2.1 + (30 + 1))) ho dX10_binary_149 fw_10_109 rfl ?_
          refine ag_iload_n dX10_binary_152 rfl ?_
          obtain ⟨j7, hj8, h⟩ := h
          refine rr_il (v := S.1 42 j7) ho dX10_binary_153 (k := 30) (f := 42) rfl hj8 rfl ?_
          refine ag_isub dX10_binary_154 rfl ?_
          refine ag_iconst (v := (-1)) dX10_binary_155 rfl ?_
          refine ag_iconst (v := (-1)) dX10_binary_156 rfl ?_
          refine rr_call (as := [.int 1, .int ((S.1 42 j5) - (S.1 42 j7)), .int (-1), .int (-1)]) (rest := [.ref c.2.2.1]) ho dX10_binary_157 me_X10_make mi_X10_make lk_10_347 rfl rfl (Nat.le_of_ble_eq_true rfl) ?_
          refine rM.mono h ?_
          rintro v S9 ⟨z10, rfl, h⟩
          show rG _ _ _ _ _ _ [.int z10, .ref c.2.2.1] _
          refine rr_call (as := [.int z10]) (rest := []) ho dX10_binary_160 me_X10_end mi_X10_end lk_10_378 rfl rfl (Nat.le_of_ble_eq_true rfl) ?_
          refine rM.mono h ?_
          rintro v S11 ⟨rfl, h⟩
          show rG _ _ _ _ _ _ [] _
          exact ag_ret (v := none) dX10_binary_163 rfl ⟨_, rfl, _, rfl, h⟩ rfl
        · have h := h.2 hc4
          refine ag_aload_n dX10_binary_126 rfl (Or.inr ⟨_, rfl⟩) ?_
          refine rr_get (v := .ref (c.2.2.1 + (30 + 1))) ho dX10_binary_127 fw_10_109 rfl ?_
          refine ag_iload_n dX10_binary_130 rfl ?_
          obtain ⟨j13, hj14, h⟩ := h
          refine rr_il (v := S.1 42 j13) ho dX10_binary_131 (k := 30) (f := 42) rfl hj14 rfl ?_
          refine ag_aload_n dX10_binary_132 rfl (Or.inr ⟨_, rfl⟩) ?_
          refine rr_get (v := .ref (c.2.2.1 + (30 + 1))) ho dX10_binary_133 fw_10_109 rfl ?_
          refine ag_iload_n dX10_binary_136 rfl ?_
          obtain ⟨j15, hj16, h⟩ := h
          refine rr_il (v := S.1 42 j15) ho dX10_binary_137 (k := 30) (f := 42) rfl hj16 rfl ?_
          refine ag_iadd dX10_binary_138 rfl ?_
          refine ag_goto (tgt := 155) dX10_binary_139 rfl ?_
          refine ag_iconst (v := (-1)) dX10_binary_155 rfl ?_
          refine ag_iconst (v := (-1)) dX10_binary_156 rfl ?_
          refine rr_call (as := [.int 1, .int ((S.1 42 j13) + (S.1 42 j15)), .int (-1), .int (-1)]) (rest := [.ref c.2.2.1]) ho dX10_binary_157 me_X10_make mi_X10_make lk_10_347 rfl rfl (Nat.le_of_ble_eq_true rfl) ?_
          refine rM.mono h ?_
          rintro v S17 ⟨z18, rfl, h⟩
          show rG _ _ _ _ _ _ [.int z18, .ref c.2.2.1] _
          refine rr_call (as := [.int z18]) (rest := []) ho dX10_binary_160 me_X10_end mi_X10_end lk_10_378 rfl rfl (Nat.le_of_ble_eq_true rfl) ?_
          refine rM.mono h ?_
          rintro v S19 ⟨rfl, h⟩
          show rG _ _ _ _ _ _ [] _
          exact ag_ret (v := none) dX10_binary_163 rfl ⟨_, rfl, _, rfl, h⟩ rfl
      · have h := h.2 hc3
        refine ag_aload_n dX10_binary_105 rfl (Or.inr ⟨_, rfl⟩) ?_
        refine ag_bipush (v := 16) dX10_binary_106 (by decide) ?_
        refine ag_iconst (v := 0) dX10_binary_108 rfl ?_
        refine ag_iload_n dX10_binary_109 rfl ?_
        refine ag_iload_n dX10_binary_110 rfl ?_
        refine rr_call (as := [.int 16, .int 0, .int v2, .int v3]) (rest := [.ref c.2.2.1]) ho dX10_binary_111 me_X10_make mi_X10_make lk_10_347 rfl rfl (Nat.le_of_ble_eq_true rfl) ?_
        refine rM.mono h ?_
        rintro v S21 ⟨z22, rfl, h⟩
        show rG _ _ _ _ _ _ [.int z22, .ref c.2.2.1] _
        refine ag_goto (tgt := 160) dX10_binary_114 rfl ?_
        refine rr_call (as := [.int z22]) (rest := []) ho dX10_binary_160 me_X10_end mi_X10_end lk_10_378 rfl rfl (Nat.le_of_ble_eq_true rfl) ?_
        refine rM.mono h ?_
        rintro v S23 ⟨rfl, h⟩
        show rG _ _ _ _ _ _ [] _
        exact ag_ret (v := none) dX10_binary_163 rfl ⟨_, rfl, _, rfl, h⟩ rfl
    · have h := h.2 hc2
      refine ag_aload_n dX10_binary_89 rfl (Or.inr ⟨_, rfl⟩) ?_
      refine ag_iconst (v := 3) dX10_binary_90 rfl ?_
      refine rr_call (as := [.int 3]) (rest := []) ho dX10_binary_91 me_X10_stop mi_X10_stop lk_10_388 rfl rfl (Nat.le_of_ble_eq_true rfl) ?_
      refine rM.mono h ?_
      rintro v S25 ⟨rfl, h⟩
      show rG _ _ _ _ _ _ [] _
      refine ag_goto (tgt := 163) dX10_binary_94 rfl ?_
      exact ag_ret (v := none) dX10_binary_163 rfl ⟨_, rfl, _, rfl, h⟩ rfl
  · have h := h.2 hc1
    refine ag_aload_n dX10_binary_50 rfl (Or.inr ⟨_, rfl⟩) ?_
    refine ag_aload_n dX10_binary_51 rfl (Or.inr ⟨_, rfl⟩) ?_
    refine rr_get (v := .ref (c.2.2.1 + (30 + 1))) ho dX10_binary_52 fw_10_109 rfl ?_
    refine ag_iload_n dX10_binary_55 rfl ?_
    obtain ⟨j27, hj28, h⟩ := h
    refine rr_il (v := S.1 42 j27) ho dX10_binary_56 (k := 30) (f := 42) rfl hj28 rfl ?_
    refine ag_aload_n dX10_binary_57 rfl (Or.inr ⟨_, rfl⟩) ?_
    refine rr_get (v := .ref (c.2.2.1 + (30 + 1))) ho dX10_binary_58 fw_10_109 rfl ?_
    refine ag_iload_n dX10_binary_61 rfl ?_
    obtain ⟨j29, hj30, h⟩ := h
    refine rr_il (v := S.1 42 j29) ho dX10_binary_62 (k := 30) (f := 42) rfl hj30 rfl ?_
    refine ag_icmp_ge (tgt := 70) dX10_binary_63 rfl (fun hc31 => ?_) (fun hc31 => ?_)
    · have h := h.1 hc31
      refine ag_iconst (v := 0) dX10_binary_70 rfl ?_
      refine rr_calls (as := [.int 0]) (rest := [.ref c.2.2.1]) dX10_binary_71 me_X10_truth ms_X10_truth lk_10_384 rfl rfl (Nat.le_of_ble_eq_true rfl) ?_
      refine rM.mono h ?_
      rintro v S32 ⟨z33, rfl, h⟩
      show rG _ _ _ _ _ _ [.int z33, .ref c.2.2.1] _
      refine rr_call (as := [.int z33]) (rest := []) ho dX10_binary_74 me_X10_end mi_X10_end lk_10_378 rfl rfl (Nat.le_of_ble_eq_true rfl) ?_
      refine rM.mono h ?_
      rintro v S34 ⟨rfl, h⟩
      show rG _ _ _ _ _ _ [] _
      refine ag_goto (tgt := 163) dX10_binary_77 rfl ?_
      exact ag_ret (v := none) dX10_binary_163 rfl ⟨_, rfl, _, rfl, h⟩ rfl
    · have h := h.2 hc31
      refine ag_iconst (v := 1) dX10_binary_66 rfl ?_
      refine ag_goto (tgt := 71) dX10_binary_67 rfl ?_
      refine rr_calls (as := [.int 1]) (rest := [.ref c.2.2.1]) dX10_binary_71 me_X10_truth ms_X10_truth lk_10_384 rfl rfl (Nat.le_of_ble_eq_true rfl) ?_
      refine rM.mono h ?_
      rintro v S36 ⟨z37, rfl, h⟩
      show rG _ _ _ _ _ _ [.int z37, .ref c.2.2.1] _
      refine rr_call (as := [.int z37]) (rest := []) ho dX10_binary_74 me_X10_end mi_X10_end lk_10_378 rfl rfl (Nat.le_of_ble_eq_true rfl) ?_
      refine rM.mono h ?_
      rintro v S38 ⟨rfl, h⟩
      show rG _ _ _ _ _ _ [] _
      refine ag_goto (tgt := 163) dX10_binary_77 rfl ?_
      exact ag_ret (v := none) dX10_binary_163 rfl ⟨_, rfl, _, rfl, h⟩ rfl
theorem dX10_run_0 : decode cX10_run 0 = .ok (.aload_n 0, 1) := by decide +kernel
theorem dX10_run_1 : decode cX10_run 1 = .ok (.aload_n 0, 1) := by decide +kernel
theorem dX10_run_2 : decode cX10_run 2 = .ok (.getfield 335, 3) := by decide +kernel
theorem dX10_run_5 : decode cX10_run 5 = .ok (.ifCond .ne 7, 3) := by decide +kernel
theorem dX10_run_8 : decode cX10_run 8 = .ok (.iconst 1, 1) := by decide +kernel
theorem dX10_run_9 : decode cX10_run 9 = .ok (.goto 19, 3) := by decide +kernel
theorem dX10_run_12 : decode cX10_run 12 = .ok (.iload_n 1, 1) := by decide +kernel
theorem dX10_run_13 : decode cX10_run 13 = .ok (.ifCond .lt 10, 3) := by decide +kernel
theorem dX10_run_16 : decode cX10_run 16 = .ok (.iload_n 1, 1) := by decide +kernel
theorem dX10_run_17 : decode cX10_run 17 = .ok (.sipush 1000, 3) := by decide +kernel
theorem dX10_run_20 : decode cX10_run 20 = .ok (.if_icmp .le 7, 3) := by decide +kernel
theorem dX10_run_23 : decode cX10_run 23 = .ok (.iconst 2, 1) := by decide +kernel
theorem dX10_run_24 : decode cX10_run 24 = .ok (.goto 4, 3) := by decide +kernel
theorem dX10_run_27 : decode cX10_run 27 = .ok (.iconst 0, 1) := by decide +kernel
theorem dX10_run_28 : decode cX10_run 28 = .ok (.putfield 148, 3) := by decide +kernel
theorem dX10_run_31 : decode cX10_run 31 = .ok (.aload_n 0, 1) := by decide +kernel
theorem dX10_run_32 : decode cX10_run 32 = .ok (.getfield 148, 3) := by decide +kernel
theorem dX10_run_35 : decode cX10_run 35 = .ok (.ifCond .le 5, 3) := by decide +kernel
theorem dX10_run_38 : decode cX10_run 38 = .ok (.iconst 0, 1) := by decide +kernel
theorem dX10_run_39 : decode cX10_run 39 = .ok (.ireturn, 1) := by decide +kernel
theorem dX10_run_40 : decode cX10_run 40 = .ok (.aload_n 0, 1) := by decide +kernel
theorem dX10_run_41 : decode cX10_run 41 = .ok (.invokevirtual 344, 3) := by decide +kernel
theorem dX10_run_44 : decode cX10_run 44 = .ok (.aload_n 0, 1) := by decide +kernel
theorem dX10_run_45 : decode cX10_run 45 = .ok (.iconst 0, 1) := by decide +kernel
theorem dX10_run_46 : decode cX10_run 46 = .ok (.putfield 391, 3) := by decide +kernel
theorem dX10_run_49 : decode cX10_run 49 = .ok (.aload_n 0, 1) := by decide +kernel
theorem dX10_run_50 : decode cX10_run 50 = .ok (.iconst 0, 1) := by decide +kernel
theorem dX10_run_51 : decode cX10_run 51 = .ok (.putfield 354, 3) := by decide +kernel
theorem dX10_run_54 : decode cX10_run 54 = .ok (.aload_n 0, 1) := by decide +kernel
theorem dX10_run_55 : decode cX10_run 55 = .ok (.iconst 0, 1) := by decide +kernel
theorem dX10_run_56 : decode cX10_run 56 = .ok (.putfield 360, 3) := by decide +kernel
theorem dX10_run_59 : decode cX10_run 59 = .ok (.aload_n 0, 1) := by decide +kernel
theorem dX10_run_60 : decode cX10_run 60 = .ok (.aload_n 0, 1) := by decide +kernel
theorem dX10_run_61 : decode cX10_run 61 = .ok (.getfield 35, 3) := by decide +kernel
theorem dX10_run_64 : decode cX10_run 64 = .ok (.iconst 3, 1) := by decide +kernel
theorem dX10_run_65 : decode cX10_run 65 = .ok (.iaload, 1) := by decide +kernel
theorem dX10_run_66 : decode cX10_run 66 = .ok (.iconst 0, 1) := by decide +kernel
theorem dX10_run_67 : decode cX10_run 67 = .ok (.invokevirtual 366, 3) := by decide +kernel
theorem dX10_run_70 : decode cX10_run 70 = .ok (.iconst 1, 1) := by decide +kernel
theorem dX10_run_71 : decode cX10_run 71 = .ok (.istore_n 2, 1) := by decide +kernel
theorem dX10_run_72 : decode cX10_run 72 = .ok (.iload_n 2, 1) := by decide +kernel
theorem dX10_run_73 : decode cX10_run 73 = .ok (.ifCond .eq 64, 3) := by decide +kernel
theorem dX10_run_76 : decode cX10_run 76 = .ok (.aload_n 0, 1) := by decide +kernel
theorem dX10_run_77 : decode cX10_run 77 = .ok (.getfield 127, 3) := by decide +kernel
theorem dX10_run_80 : decode cX10_run 80 = .ok (.aload_n 0, 1) := by decide +kernel
theorem dX10_run_81 : decode cX10_run 81 = .ok (.getfield 354, 3) := by decide +kernel
theorem dX10_run_84 : decode cX10_run 84 = .ok (.iconst 1, 1) := by decide +kernel
theorem dX10_run_85 : decode cX10_run 85 = .ok (.isub, 1) := by decide +kernel
theorem dX10_run_86 : decode cX10_run 86 = .ok (.iaload, 1) := by decide +kernel
theorem dX10_run_87 : decode cX10_run 87 = .ok (.ifCond .ne 23, 3) := by decide +kernel
theorem dX10_run_90 : decode cX10_run 90 = .ok (.aload_n 0, 1) := by decide +kernel
theorem dX10_run_91 : decode cX10_run 91 = .ok (.getfield 391, 3) := by decide +kernel
theorem dX10_run_94 : decode cX10_run 94 = .ok (.iload_n 1, 1) := by decide +kernel
theorem dX10_run_95 : decode cX10_run 95 = .ok (.if_icmp .ne 5, 3) := by decide +kernel
theorem dX10_run_98 : decode cX10_run 98 = .ok (.iconst 0, 1) := by decide +kernel
theorem dX10_run_99 : decode cX10_run 99 = .ok (.ireturn, 1) := by decide +kernel
theorem dX10_run_100 : decode cX10_run 100 = .ok (.aload_n 0, 1) := by decide +kernel
theorem dX10_run_101 : decode cX10_run 101 = .ok (.dup, 1) := by decide +kernel
theorem dX10_run_102 : decode cX10_run 102 = .ok (.getfield 391, 3) := by decide +kernel
theorem dX10_run_105 : decode cX10_run 105 = .ok (.iconst 1, 1) := by decide +kernel
theorem dX10_run_106 : decode cX10_run 106 = .ok (.iadd, 1) := by decide +kernel
theorem dX10_run_107 : decode cX10_run 107 = .ok (.putfield 391, 3) := by decide +kernel
theorem dX10_run_110 : decode cX10_run 110 = .ok (.aload_n 0, 1) := by decide +kernel
theorem dX10_run_111 : decode cX10_run 111 = .ok (.invokevirtual 394, 3) := by decide +kernel
theorem dX10_run_114 : decode cX10_run 114 = .ok (.aload_n 0, 1) := by decide +kernel
theorem dX10_run_115 : decode cX10_run 115 = .ok (.getfield 354, 3) := by decide +kernel
theorem dX10_run_118 : decode cX10_run 118 = .ok (.ifCond .le 14, 3) := by decide +kernel
theorem dX10_run_121 : decode cX10_run 121 = .ok (.aload_n 0, 1) := by decide +kernel
theorem dX10_run_122 : decode cX10_run 122 = .ok (.getfield 360, 3) := by decide +kernel
theorem dX10_run_125 : decode cX10_run 125 = .ok (.ifCond .ne 7, 3) := by decide +kernel
theorem dX10_run_128 : decode cX10_run 128 = .ok (.iconst 1, 1) := by decide +kernel
theorem dX10_run_129 : decode cX10_run 129 = .ok (.goto 4, 3) := by decide +kernel
theorem dX10_run_132 : decode cX10_run 132 = .ok (.iconst 0, 1) := by decide +kernel
theorem dX10_run_133 : decode cX10_run 133 = .ok (.istore_n 2, 1) := by decide +kernel
theorem dX10_run_134 : decode cX10_run 134 = .ok (.goto (-62), 3) := by decide +kernel
theorem dX10_run_137 : decode cX10_run 137 = .ok (.aload_n 0, 1) := by decide +kernel
theorem dX10_run_138 : decode cX10_run 138 = .ok (.getfield 360, 3) := by decide +kernel
theorem dX10_run_141 : decode cX10_run 141 = .ok (.ifCond .le 8, 3) := by decide +kernel
theorem dX10_run_144 : decode cX10_run 144 = .ok (.aload_n 0, 1) := by decide +kernel
theorem dX10_run_145 : decode cX10_run 145 = .ok (.getfield 360, 3) := by decide +kernel
theorem dX10_run_148 : decode cX10_run 148 = .ok (.ireturn, 1) := by decide +kernel
theorem dX10_run_149 : decode cX10_run 149 = .ok (.aload_n 0, 1) := by decide +kernel
theorem dX10_run_150 : decode cX10_run 150 = .ok (.aload_n 0, 1) := by decide +kernel
theorem dX10_run_151 : decode cX10_run 151 = .ok (.getfield 357, 3) := by decide +kernel
theorem dX10_run_154 : decode cX10_run 154 = .ok (.putfield 121, 3) := by decide +kernel
theorem dX10_run_157 : decode cX10_run 157 = .ok (.iconst 1, 1) := by decide +kernel
theorem dX10_run_158 : decode cX10_run 158 = .ok (.ireturn, 1) := by decide +kernel
set_option maxRecDepth 20000 in
set_option maxHeartbeats 4000000 in
theorem w_X10_run {c : rX} {d : Nat} {S : rS} {K : Option Value → rS → Prop} (ho : rOK c) (p0 : Int32) (h : (¬ (S.1 18 0) = 0 → ((p0 < 0 → (rG c eX10_run (d + 1) (rQ c K) 28 [some (.ref c.2.2.1), some (.int p0), none] [.int 2, .ref c.2.2.1] S)) ∧ (¬ p0 < 0 → ((p0 ≤ 1000 → (rG c eX10_run (d + 1) (rQ c K) 28 [some (.ref c.2.2.1), some (.int p0), none] [.int 0, .ref c.2.2.1] S)) ∧ (¬ p0 ≤ 1000 → (rG c eX10_run (d + 1) (rQ c K) 28 [some (.ref c.2.2.1), some (.int p0), none] [.int 2, .ref c.2.2.1] S)))))) ∧ ((S.1 18 0) = 0 → (rG c eX10_run (d + 1) (rQ c K) 28 [some (.ref c.2.2.1), some (.int p0), none] [.int 1, .ref c.2.2.1] S))) : rM c (d + 1) eX10_run [.ref c.2.2.1, .int p0] S K := by
  refine rM.of (by decide) (Nat.le_of_ble_eq_true rfl) ?_
  show rG c eX10_run (d + 1) (rQ c K) 0 [some (.ref c.2.2.1), some (.int p0), none] [] S
  refine ag_aload_n dX10_run_0 rfl (Or.inr ⟨_, rfl⟩) ?_
  refine ag_aload_n dX10_run_1 rfl (Or.inr ⟨_, rfl⟩) ?_
  refine rr_get (v := .int (S.1 18 0)) ho dX10_run_2 fw_10_335 rfl ?_
  refine ag_if_ne (tgt := 12) dX10_run_5 rfl (fun hc1 => ?_) (fun hc1 => ?_)
  · have h := h.1 hc1
    refine ag_iload_n dX10_run_12 rfl ?_
    refine ag_if_lt (tgt := 23) dX10_run_13 rfl (fun hc2 => ?_) (fun hc2 => ?_)
    · have h := h.1 hc2
      refine ag_iconst (v := 2) dX10_run_23 rfl ?_
      refine ag_goto (tgt := 28) dX10_run_24 rfl ?_
      exact h
    · have h := h.2 hc2
      refine ag_iload_n dX10_run_16 rfl ?_
      refine ag_sipush (v := 1000) dX10_run_17 (by decide) ?_
      refine ag_icmp_le (tgt := 27) dX10_run_20 rfl (fun hc3 => ?_) (fun hc3 => ?_)
      · have h := h.1 hc3
        refine ag_iconst (v := 0) dX10_run_27 rfl ?_
        exact h
      · have h := h.2 hc3
        refine ag_iconst (v := 2) dX10_run_23 rfl ?_
        refine ag_goto (tgt := 28) dX10_run_24 rfl ?_
        exact h
  · have h := h.2 hc1
    refine ag_iconst (v := 1) dX10_run_8 rfl ?_
    refine ag_goto (tgt := 28) dX10_run_9 rfl ?_
    exact h
set_option maxRecDepth 20000 in
set_option maxHeartbeats 4000000 in
theorem w_X10_run_28 {c : rX} {d : Nat} {S : rS} {K : Option Value → rS → Prop} (ho : rOK c) (v1 : Int32) (s0 : Int32) (h : (s0 ≤ 0 → (rM c d eX10_removeRun (.ref c.2.2.1 :: []) (rsi S 0 0 s0) (fun v S2 => v = none ∧ (rM c d eX10_begin (.ref c.2.2.1 :: [.int (S2.1 10 3), .int 0]) (rsi (rsi (rsi S2 46 0 0) 49 0 0) 48 0 0) (fun v S4 => v = none ∧ (rG c eX10_run (d + 1) (rQ c K) 72 [some (.ref c.2.2.1), some (.int v1), some (.int 1)] [] S4)))))) ∧ (¬ s0 ≤ 0 → (K (some (.int 0)) (rsi S 0 0 s0)))) : rG c eX10_run (d + 1) (rQ c K) 28 [some (.ref c.2.2.1), some (.int v1), none] [.int s0, .ref c.2.2.1] S := by
  refine rr_put (S2 := (rsi S 0 0 s0)) ho dX10_run_28 pw_10_148 rfl (fun _ => ⟨rfl, rfl⟩) rfl ?_
  refine ag_aload_n dX10_run_31 rfl (Or.inr ⟨_, rfl⟩) ?_
  refine rr_get (v := .int s0) ho dX10_run_32 fw_10_148 rfl ?_
  refine ag_if_le (tgt := 40) dX10_run_35 rfl (fun hc1 => ?_) (fun hc1 => ?_)
  · have h := h.1 hc1
    refine ag_aload_n dX10_run_40 rfl (Or.inr ⟨_, rfl⟩) ?_
    refine rr_call (as := []) (rest := []) ho dX10_run_41 me_X10_removeRun mi_X10_removeRun lk_10_344 rfl rfl (Nat.le_of_ble_eq_true rfl) ?_
    refine rM.mono h ?_
    rintro v S2 ⟨rfl, h⟩
    show rG _ _ _ _ _ _ [] _
    refine ag_aload_n dX10_run_44 rfl (Or.inr ⟨_, rfl⟩) ?_
    refine ag_iconst (v := 0) dX10_run_45 rfl ?_
    refine rr_put (S2 := (rsi S2 46 0 0)) ho dX10_run_46 pw_10_391 rfl (fun _ => ⟨rfl, rfl⟩) rfl ?_
    refine ag_aload_n dX10_run_49 rfl (Or.inr ⟨_, rfl⟩) ?_
    refine ag_iconst (v := 0) dX10_run_50 rfl ?_
    refine rr_put (S2 := (rsi (rsi S2 46 0 0) 49 0 0)) ho dX10_run_51 pw_10_354 rfl (fun _ => ⟨rfl, rfl⟩) rfl ?_
    refine ag_aload_n dX10_run_54 rfl (Or.inr ⟨_, rfl⟩) ?_
    refine ag_iconst (v := 0) dX10_run_55 rfl ?_
    refine rr_put (S2 := (rsi (rsi (rsi S2 46 0 0) 49 0 0) 48 0 0)) ho dX10_run_56 pw_10_360 rfl (fun _ => ⟨rfl, rfl⟩) rfl ?_
    refine ag_aload_n dX10_run_59 rfl (Or.inr ⟨_, rfl⟩) ?_
    refine ag_aload_n dX10_run_60 rfl (Or.inr ⟨_, rfl⟩) ?_
    refine rr_get (v := .ref (c.2.2.1 + (7 + 1))) ho dX10_run_61 fw_10_35 rfl ?_
    refine ag_iconst (v := 3) dX10_run_64 rfl ?_
    refine rr_il (v := S2.1 10 3) ho dX10_run_65 (k := 7) (f := 10) rfl ⟨by decide, by decide, by decide⟩ rfl ?_
    refine ag_iconst (v := 0) dX10_run_66 rfl ?_
    refine rr_call (as := [.int (S2.1 10 3), .int 0]) (rest := []) ho dX10_run_67 me_X10_begin mi_X10_begin lk_10_366 rfl rfl (Nat.le_of_ble_eq_true rfl) ?_
    refine rM.mono h ?_
    rintro v S4 ⟨rfl, h⟩
    show rG _ _ _ _ _ _ [] _
    refine ag_iconst (v := 1) dX10_run_70 rfl ?_
    refine ag_istore_n (lv2 := [some (.ref c.2.2.1), some (.int v1), some (.int 1)]) dX10_run_71 (Nat.le_of_ble_eq_true rfl) rfl ?_
    exact h
  · have h := h.2 hc1
    refine ag_iconst (v := 0) dX10_run_38 rfl ?_
    exact ag_ret (v := some (.int 0)) dX10_run_39 ⟨_, rfl, rfl⟩ ⟨_, rfl, _, rfl, h⟩ rfl
set_option maxRecDepth 20000 in
set_option maxHeartbeats 4000000 in
theorem w_X10_run_72 {c : rX} {d : Nat} {S : rS} {K : Option Value → rS → Prop} (ho : rOK c) (v1 : Int32) (v2 : Int32) (h : (v2 = 0 → (((S.1 48 0) ≤ 0 → (K (some (.int 1)) (rsi S 47 0 (S.1 50 0)))) ∧ (¬ (S.1 48 0) ≤ 0 → (K (some (.int (S.1 48 0))) S)))) ∧ (¬ v2 = 0 → (∃ j3 : Nat, am_ix ((S.1 49 0) - 1) j3 80 ∧ ((¬ (S.1 52 j3) = 0 → (rG c eX10_run (d + 1) (rQ c K) 110 [some (.ref c.2.2.1), some (.int v1), none] [] S)) ∧ ((S.1 52 j3) = 0 → ((¬ (S.1 46 0) = v1 → (rG c eX10_run (d + 1) (rQ c K) 110 [some (.ref c.2.2.1), some (.int v1), none] [] (rsi S 46 0 ((S.1 46 0) + 1)))) ∧ ((S.1 46 0) = v1 → (K (some (.int 0)) S)))))))) : rG c eX10_run (d + 1) (rQ c K) 72 [some (.ref c.2.2.1), some (.int v1), some (.int v2)] [] S := by
  refine ag_iload_n dX10_run_72 rfl ?_
  refine ag_if_eq (tgt := 137) dX10_run_73 rfl (fun hc1 => ?_) (fun hc1 => ?_)
  · have h := h.1 hc1
    refine ag_aload_n dX10_run_137 rfl (Or.inr ⟨_, rfl⟩) ?_
    refine rr_get (v := .int (S.1 48 0)) ho dX10_run_138 fw_10_360 rfl ?_
    refine ag_if_le (tgt := 149) dX10_run_141 rfl (fun hc2 => ?_) (fun hc2 => ?_)
    · have h := h.1 hc2
      refine ag_aload_n dX10_run_149 rfl (Or.inr ⟨_, rfl⟩) ?_
      refine ag_aload_n dX10_run_150 rfl (Or.inr ⟨_, rfl⟩) ?_
      refine rr_get (v := .int (S.1 50 0)) ho dX10_run_151 fw_10_357 rfl ?_
      refine rr_put (S2 := (rsi S 47 0 (S.1 50 0))) ho dX10_run_154 pw_10_121 rfl (fun _ => ⟨rfl, rfl⟩) rfl ?_
      refine ag_iconst (v := 1) dX10_run_157 rfl ?_
      exact ag_ret (v := some (.int 1)) dX10_run_158 ⟨_, rfl, rfl⟩ ⟨_, rfl, _, rfl, h⟩ rfl
    · have h := h.2 hc2
      refine ag_aload_n dX10_run_144 rfl (Or.inr ⟨_, rfl⟩) ?_
      refine rr_get (v := .int (S.1 48 0)) ho dX10_run_145 fw_10_360 rfl ?_
      exact ag_ret (v := some (.int (S.1 48 0))) dX10_run_148 ⟨_, rfl, rfl⟩ ⟨_, rfl, _, rfl, h⟩ rfl
  · have h := h.2 hc1
    refine ag_aload_n dX10_run_76 rfl (Or.inr ⟨_, rfl⟩) ?_
    refine rr_get (v := .ref (c.2.2.1 + (35 + 1))) ho dX10_run_77 fw_10_127 rfl ?_
    refine ag_aload_n dX10_run_80 rfl (Or.inr ⟨_, rfl⟩) ?_
    refine rr_get (v := .int (S.1 49 0)) ho dX10_run_81 fw_10_354 rfl ?_
    refine ag_iconst (v := 1) dX10_run_84 rfl ?_
    refine ag_isub dX10_run_85 rfl ?_
    obtain ⟨j3, hj4, h⟩ := h
    refine rr_il (v := S.1 52 j3) ho dX10_run_86 (k := 35) (f := 52) rfl hj4 rfl ?_
    refine ag_if_ne (tgt := 110) dX10_run_87 rfl (fun hc5 => ?_) (fun hc5 => ?_)
    · have h := h.1 hc5
      refine ag_drop 2 ?_
      exact h
    · have h := h.2 hc5
      refine ag_aload_n dX10_run_90 rfl (Or.inr ⟨_, rfl⟩) ?_
      refine rr_get (v := .int (S.1 46 0)) ho dX10_run_91 fw_10_391 rfl ?_
      refine ag_iload_n dX10_run_94 rfl ?_
      refine ag_icmp_ne (tgt := 100) dX10_run_95 rfl (fun hc6 => ?_) (fun hc6 => ?_)
      · have h := h.1 hc6
        refine ag_aload_n dX10_run_100 rfl (Or.inr ⟨_, rfl⟩) ?_
        refine ag_dup dX10_run_101 rfl ?_
        refine rr_get (v := .int (S.1 46 0)) ho dX10_run_102 fw_10_391 rfl ?_
        refine ag_iconst (v := 1) dX10_run_105 rfl ?_
        refine ag_iadd dX10_run_106 rfl ?_
        refine rr_put (S2 := (rsi S 46 0 ((S.1 46 0) + 1))) ho dX10_run_107 pw_10_391 rfl (fun _ => ⟨rfl, rfl⟩) rfl ?_
        refine ag_drop 2 ?_
        exact h
      · have h := h.2 hc6
        refine ag_iconst (v := 0) dX10_run_98 rfl ?_
        exact ag_ret (v := some (.int 0)) dX10_run_99 ⟨_, rfl, rfl⟩ ⟨_, rfl, _, rfl, h⟩ rfl
set_option maxRecDepth 20000 in
set_option maxHeartbeats 4000000 in
theorem w_X10_run_110 {c : rX} {d : Nat} {S : rS} {K : Option Value → rS → Prop} (ho : rOK c) (v1 : Int32) (h : rM c d eX10_goOn (.ref c.2.2.1 :: []) S (fun v S1 => v = none ∧ (((S1.1 49 0) ≤ 0 → (rG c eX10_run (d + 1) (rQ c K) 72 [some (.ref c.2.2.1), some (.int v1), some (.int 0)] [] S1)) ∧ (¬ (S1.1 49 0) ≤ 0 → ((¬ (S1.1 48 0) = 0 → (rG c eX10_run (d + 1) (rQ c K) 72 [some (.ref c.2.2.1), some (.int v1), some (.int 0)] [] S1)) ∧ ((S1.1 48 0) = 0 → (rG c eX10_run (d + 1) (rQ c K) 72 [some (.ref c.2.2.1), some (.int v1), some (.int 1)] [] S1))))))) : rG c eX10_run (d + 1) (rQ c K) 110 [some (.ref c.2.2.1), some (.int v1), none] [] S := by
  refine ag_aload_n dX10_run_110 rfl (Or.inr ⟨_, rfl⟩) ?_
  refine rr_call (as := []) (rest := []) ho dX10_run_111 me_X10_goOn mi_X10_goOn lk_10_394 rfl rfl (Nat.le_of_ble_eq_true rfl) ?_
  refine rM.mono h ?_
  rintro v S1 ⟨rfl, h⟩
  show rG _ _ _ _ _ _ [] _
  refine ag_aload_n dX10_run_114 rfl (Or.inr ⟨_, rfl⟩) ?_
  refine rr_get (v := .int (S1.1 49 0)) ho dX10_run_115 fw_10_354 rfl ?_
  refine ag_if_le (tgt := 132) dX10_run_118 rfl (fun hc3 => ?_) (fun hc3 => ?_)
  · have h := h.1 hc3
    refine ag_iconst (v := 0) dX10_run_132 rfl ?_
    refine ag_istore_n (lv2 := [some (.ref c.2.2.1), some (.int v1), some (.int 0)]) dX10_run_133 (Nat.le_of_ble_eq_true rfl) rfl ?_
    refine ag_goto (tgt := 72) dX10_run_134 rfl ?_
    exact h
  · have h := h.2 hc3
    refine ag_aload_n dX10_run_121 rfl (Or.inr ⟨_, rfl⟩) ?_
    refine rr_get (v := .int (S1.1 48 0)) ho dX10_run_122 fw_10_360 rfl ?_
    refine ag_if_ne (tgt := 132) dX10_run_125 rfl (fun hc4 => ?_) (fun hc4 => ?_)
    · have h := h.1 hc4
      refine ag_iconst (v := 0) dX10_run_132 rfl ?_
      refine ag_istore_n (lv2 := [some (.ref c.2.2.1), some (.int v1), some (.int 0)]) dX10_run_133 (Nat.le_of_ble_eq_true rfl) rfl ?_
      refine ag_goto (tgt := 72) dX10_run_134 rfl ?_
      exact h
    · have h := h.2 hc4
      refine ag_iconst (v := 1) dX10_run_128 rfl ?_
      refine ag_goto (tgt := 133) dX10_run_129 rfl ?_
      refine ag_istore_n (lv2 := [some (.ref c.2.2.1), some (.int v1), some (.int 1)]) dX10_run_133 (Nat.le_of_ble_eq_true rfl) rfl ?_
      refine ag_goto (tgt := 72) dX10_run_134 rfl ?_
      exact h
theorem dX10_steps_0 : decode cX10_steps 0 = .ok (.aload_n 0, 1) := by decide +kernel
theorem dX10_steps_1 : decode cX10_steps 1 = .ok (.iconst 0, 1) := by decide +kernel
theorem dX10_steps_2 : decode cX10_steps 2 = .ok (.putfield 148, 3) := by decide +kernel
theorem dX10_steps_5 : decode cX10_steps 5 = .ok (.aload_n 0, 1) := by decide +kernel
theorem dX10_steps_6 : decode cX10_steps 6 = .ok (.getfield 391, 3) := by decide +kernel
theorem dX10_steps_9 : decode cX10_steps 9 = .ok (.ireturn, 1) := by decide +kernel
set_option maxRecDepth 20000 in
set_option maxHeartbeats 4000000 in
theorem w_X10_steps {c : rX} {d : Nat} {S : rS} {K : Option Value → rS → Prop} (ho : rOK c)  (h : K (some (.int (S.1 46 0))) (rsi S 0 0 0)) : rM c d eX10_steps [.ref c.2.2.1] S K := by
  refine rM.of (by decide) (Nat.le_of_ble_eq_true rfl) ?_
  show rG c eX10_steps d (rQ c K) 0 [some (.ref c.2.2.1)] [] S
  refine ag_aload_n dX10_steps_0 rfl (Or.inr ⟨_, rfl⟩) ?_
  refine ag_iconst (v := 0) dX10_steps_1 rfl ?_
  refine rr_put (S2 := (rsi S 0 0 0)) ho dX10_steps_2 pw_10_148 rfl (fun _ => ⟨rfl, rfl⟩) rfl ?_
  refine ag_aload_n dX10_steps_5 rfl (Or.inr ⟨_, rfl⟩) ?_
  refine rr_get (v := .int (S.1 46 0)) ho dX10_steps_6 fw_10_391 rfl ?_
  exact ag_ret (v := some (.int (S.1 46 0))) dX10_steps_9 ⟨_, rfl, rfl⟩ ⟨_, rfl, _, rfl, h⟩ rfl
theorem dX10_result_0 : decode cX10_result 0 = .ok (.aload_n 0, 1) := by decide +kernel
theorem dX10_result_1 : decode cX10_result 1 = .ok (.iconst 0, 1) := by decide +kernel
theorem dX10_result_2 : decode cX10_result 2 = .ok (.putfield 148, 3) := by decide +kernel
theorem dX10_result_5 : decode cX10_result 5 = .ok (.aload_n 0, 1) := by decide +kernel
theorem dX10_result_6 : decode cX10_result 6 = .ok (.getfield 121, 3) := by decide +kernel
theorem dX10_result_9 : decode cX10_result 9 = .ok (.ireturn, 1) := by decide +kernel
set_option maxRecDepth 20000 in
set_option maxHeartbeats 4000000 in
theorem w_X10_result {c : rX} {d : Nat} {S : rS} {K : Option Value → rS → Prop} (ho : rOK c)  (h : K (some (.int (S.1 47 0))) (rsi S 0 0 0)) : rM c d eX10_result [.ref c.2.2.1] S K := by
  refine rM.of (by decide) (Nat.le_of_ble_eq_true rfl) ?_
  show rG c eX10_result d (rQ c K) 0 [some (.ref c.2.2.1)] [] S
  refine ag_aload_n dX10_result_0 rfl (Or.inr ⟨_, rfl⟩) ?_
  refine ag_iconst (v := 0) dX10_result_1 rfl ?_
  refine rr_put (S2 := (rsi S 0 0 0)) ho dX10_result_2 pw_10_148 rfl (fun _ => ⟨rfl, rfl⟩) rfl ?_
  refine ag_aload_n dX10_result_5 rfl (Or.inr ⟨_, rfl⟩) ?_
  refine rr_get (v := .int (S.1 47 0)) ho dX10_result_6 fw_10_121 rfl ?_
  exact ag_ret (v := some (.int (S.1 47 0))) dX10_result_9 ⟨_, rfl, rfl⟩ ⟨_, rfl, _, rfl, h⟩ rfl
theorem dX10_count_0 : decode cX10_count 0 = .ok (.aload_n 0, 1) := by decide +kernel
theorem dX10_count_1 : decode cX10_count 1 = .ok (.iconst 0, 1) := by decide +kernel
theorem dX10_count_2 : decode cX10_count 2 = .ok (.putfield 148, 3) := by decide +kernel
theorem dX10_count_5 : decode cX10_count 5 = .ok (.aload_n 0, 1) := by decide +kernel
theorem dX10_count_6 : decode cX10_count 6 = .ok (.getfield 103, 3) := by decide +kernel
theorem dX10_count_9 : decode cX10_count 9 = .ok (.ireturn, 1) := by decide +kernel
set_option maxRecDepth 20000 in
set_option maxHeartbeats 4000000 in
theorem w_X10_count {c : rX} {d : Nat} {S : rS} {K : Option Value → rS → Prop} (ho : rOK c)  (h : K (some (.int (S.1 40 0))) (rsi S 0 0 0)) : rM c d eX10_count [.ref c.2.2.1] S K := by
  refine rM.of (by decide) (Nat.le_of_ble_eq_true rfl) ?_
  show rG c eX10_count d (rQ c K) 0 [some (.ref c.2.2.1)] [] S
  refine ag_aload_n dX10_count_0 rfl (Or.inr ⟨_, rfl⟩) ?_
  refine ag_iconst (v := 0) dX10_count_1 rfl ?_
  refine rr_put (S2 := (rsi S 0 0 0)) ho dX10_count_2 pw_10_148 rfl (fun _ => ⟨rfl, rfl⟩) rfl ?_
  refine ag_aload_n dX10_count_5 rfl (Or.inr ⟨_, rfl⟩) ?_
  refine rr_get (v := .int (S.1 40 0)) ho dX10_count_6 fw_10_103 rfl ?_
  exact ag_ret (v := some (.int (S.1 40 0))) dX10_count_9 ⟨_, rfl, rfl⟩ ⟨_, rfl, _, rfl, h⟩ rfl
