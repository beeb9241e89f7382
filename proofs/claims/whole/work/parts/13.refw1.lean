theorem dX10_thrown_0 : decode cX10_thrown 0 = .ok (.aload_n 0, 1) := by decide +kernel
theorem dX10_thrown_1 : decode cX10_thrown 1 = .ok (.getfield 148, 3) := by decide +kernel
theorem dX10_thrown_4 : decode cX10_thrown 4 = .ok (.ireturn, 1) := by decide +kernel
set_option maxRecDepth 20000 in
set_option maxHeartbeats 4000000 in
theorem w_X10_thrown {c : rX} {d : Nat} {S : rS} {K : Option Value → rS → Prop} (ho : rOK c)  (h : K (some (.int (S.1 0 0))) S) : rM c d eX10_thrown [.ref c.2.2.1] S K := by
  refine rM.of (by decide) (Nat.le_of_ble_eq_true rfl) ?_
  show rG c eX10_thrown d (rQ c K) 0 [some (.ref c.2.2.1)] [] S
  refine ag_aload_n dX10_thrown_0 rfl (Or.inr ⟨_, rfl⟩) ?_
  refine rr_get (v := .int (S.1 0 0)) ho dX10_thrown_1 fw_10_148 rfl ?_
  exact ag_ret (v := some (.int (S.1 0 0))) dX10_thrown_4 ⟨_, rfl, rfl⟩ ⟨_, rfl, _, rfl, h⟩ rfl
theorem dX10_fail_0 : decode cX10_fail 0 = .ok (.aload_n 0, 1) := by decide +kernel
theorem dX10_fail_1 : decode cX10_fail 1 = .ok (.iload_n 1, 1) := by decide +kernel
theorem dX10_fail_2 : decode cX10_fail 2 = .ok (.putfield 148, 3) := by decide +kernel
theorem dX10_fail_5 : decode cX10_fail 5 = .ok (.iconst 0, 1) := by decide +kernel
theorem dX10_fail_6 : decode cX10_fail 6 = .ok (.ireturn, 1) := by decide +kernel
set_option maxRecDepth 20000 in
set_option maxHeartbeats 4000000 in
theorem w_X10_fail {c : rX} {d : Nat} {S : rS} {K : Option Value → rS → Prop} (ho : rOK c) (p0 : Int32) (h : K (some (.int 0)) (rsi S 0 0 p0)) : rM c d eX10_fail [.ref c.2.2.1, .int p0] S K := by
  refine rM.of (by decide) (Nat.le_of_ble_eq_true rfl) ?_
  show rG c eX10_fail d (rQ c K) 0 [some (.ref c.2.2.1), some (.int p0)] [] S
  refine ag_aload_n dX10_fail_0 rfl (Or.inr ⟨_, rfl⟩) ?_
  refine ag_iload_n dX10_fail_1 rfl ?_
  refine rr_put (S2 := (rsi S 0 0 p0)) ho dX10_fail_2 pw_10_148 rfl (fun _ => ⟨rfl, rfl⟩) rfl ?_
  refine ag_iconst (v := 0) dX10_fail_5 rfl ?_
  exact ag_ret (v := some (.int 0)) dX10_fail_6 ⟨_, rfl, rfl⟩ ⟨_, rfl, _, rfl, h⟩ rfl
theorem dX10_type_0 : decode cX10_type 0 = .ok (.aload_n 0, 1) := by decide +kernel
theorem dX10_type_1 : decode cX10_type 1 = .ok (.iconst 0, 1) := by decide +kernel
theorem dX10_type_2 : decode cX10_type 2 = .ok (.putfield 148, 3) := by decide +kernel
theorem dX10_type_5 : decode cX10_type 5 = .ok (.aload_n 0, 1) := by decide +kernel
theorem dX10_type_6 : decode cX10_type 6 = .ok (.getfield 151, 3) := by decide +kernel
theorem dX10_type_9 : decode cX10_type 9 = .ok (.bipush 60, 2) := by decide +kernel
theorem dX10_type_11 : decode cX10_type 11 = .ok (.if_icmp .ne 5, 3) := by decide +kernel
theorem dX10_type_14 : decode cX10_type 14 = .ok (.iconst 0, 1) := by decide +kernel
theorem dX10_type_15 : decode cX10_type 15 = .ok (.ireturn, 1) := by decide +kernel
theorem dX10_type_16 : decode cX10_type 16 = .ok (.aload_n 0, 1) := by decide +kernel
theorem dX10_type_17 : decode cX10_type 17 = .ok (.getfield 13, 3) := by decide +kernel
theorem dX10_type_20 : decode cX10_type 20 = .ok (.aload_n 0, 1) := by decide +kernel
theorem dX10_type_21 : decode cX10_type 21 = .ok (.getfield 151, 3) := by decide +kernel
theorem dX10_type_24 : decode cX10_type 24 = .ok (.iload_n 1, 1) := by decide +kernel
theorem dX10_type_25 : decode cX10_type 25 = .ok (.iastore, 1) := by decide +kernel
theorem dX10_type_26 : decode cX10_type 26 = .ok (.aload_n 0, 1) := by decide +kernel
theorem dX10_type_27 : decode cX10_type 27 = .ok (.dup, 1) := by decide +kernel
theorem dX10_type_28 : decode cX10_type 28 = .ok (.getfield 151, 3) := by decide +kernel
theorem dX10_type_31 : decode cX10_type 31 = .ok (.iconst 1, 1) := by decide +kernel
theorem dX10_type_32 : decode cX10_type 32 = .ok (.iadd, 1) := by decide +kernel
theorem dX10_type_33 : decode cX10_type 33 = .ok (.putfield 151, 3) := by decide +kernel
theorem dX10_type_36 : decode cX10_type 36 = .ok (.iconst 1, 1) := by decide +kernel
theorem dX10_type_37 : decode cX10_type 37 = .ok (.ireturn, 1) := by decide +kernel
set_option maxRecDepth 20000 in
set_option maxHeartbeats 4000000 in
theorem w_X10_type {c : rX} {d : Nat} {S : rS} {K : Option Value → rS → Prop} (ho : rOK c) (p0 : Int32) (h : (¬ (S.1 2 0) = 60 → (∃ j2 : Nat, am_ix (S.1 2 0) j2 60 ∧ (K (some (.int 1)) (rsi (rsi (rsi S 0 0 0) 3 j2 p0) 2 0 ((S.1 2 0) + 1))))) ∧ ((S.1 2 0) = 60 → (K (some (.int 0)) (rsi S 0 0 0)))) : rM c d eX10_type [.ref c.2.2.1, .int p0] S K := by
  refine rM.of (by decide) (Nat.le_of_ble_eq_true rfl) ?_
  show rG c eX10_type d (rQ c K) 0 [some (.ref c.2.2.1), some (.int p0)] [] S
  refine ag_aload_n dX10_type_0 rfl (Or.inr ⟨_, rfl⟩) ?_
  refine ag_iconst (v := 0) dX10_type_1 rfl ?_
  refine rr_put (S2 := (rsi S 0 0 0)) ho dX10_type_2 pw_10_148 rfl (fun _ => ⟨rfl, rfl⟩) rfl ?_
  refine ag_aload_n dX10_type_5 rfl (Or.inr ⟨_, rfl⟩) ?_
  refine rr_get (v := .int (S.1 2 0)) ho dX10_type_6 fw_10_151 rfl ?_
  refine ag_bipush (v := 60) dX10_type_9 (by decide) ?_
  refine ag_icmp_ne (tgt := 16) dX10_type_11 rfl (fun hc1 => ?_) (fun hc1 => ?_)
  · have h := h.1 hc1
    refine ag_aload_n dX10_type_16 rfl (Or.inr ⟨_, rfl⟩) ?_
    refine rr_get (v := .ref (c.2.2.1 + (0 + 1))) ho dX10_type_17 fw_10_13 rfl ?_
    refine ag_aload_n dX10_type_20 rfl (Or.inr ⟨_, rfl⟩) ?_
    refine rr_get (v := .int (S.1 2 0)) ho dX10_type_21 fw_10_151 rfl ?_
    refine ag_iload_n dX10_type_24 rfl ?_
    obtain ⟨j2, hj3, h⟩ := h
    refine rr_is (S2 := (rsi (rsi S 0 0 0) 3 j2 p0)) ho dX10_type_25 (k := 0) (f := 3) rfl hj3 rfl ?_
    refine ag_aload_n dX10_type_26 rfl (Or.inr ⟨_, rfl⟩) ?_
    refine ag_dup dX10_type_27 rfl ?_
    refine rr_get (v := .int (S.1 2 0)) ho dX10_type_28 fw_10_151 rfl ?_
    refine ag_iconst (v := 1) dX10_type_31 rfl ?_
    refine ag_iadd dX10_type_32 rfl ?_
    refine rr_put (S2 := (rsi (rsi (rsi S 0 0 0) 3 j2 p0) 2 0 ((S.1 2 0) + 1))) ho dX10_type_33 pw_10_151 rfl (fun _ => ⟨rfl, rfl⟩) rfl ?_
    refine ag_iconst (v := 1) dX10_type_36 rfl ?_
    exact ag_ret (v := some (.int 1)) dX10_type_37 ⟨_, rfl, rB_n (Or.inr rfl)⟩ ⟨_, rfl, _, rfl, h⟩ rfl
  · have h := h.2 hc1
    refine ag_iconst (v := 0) dX10_type_14 rfl ?_
    exact ag_ret (v := some (.int 0)) dX10_type_15 ⟨_, rfl, rB_n (Or.inl rfl)⟩ ⟨_, rfl, _, rfl, h⟩ rfl
theorem dX10_wipe_0 : decode cX10_wipe 0 = .ok (.aload_n 0, 1) := by decide +kernel
theorem dX10_wipe_1 : decode cX10_wipe 1 = .ok (.iconst 0, 1) := by decide +kernel
theorem dX10_wipe_2 : decode cX10_wipe 2 = .ok (.putfield 148, 3) := by decide +kernel
theorem dX10_wipe_5 : decode cX10_wipe 5 = .ok (.aload_n 0, 1) := by decide +kernel
theorem dX10_wipe_6 : decode cX10_wipe 6 = .ok (.iconst 0, 1) := by decide +kernel
theorem dX10_wipe_7 : decode cX10_wipe 7 = .ok (.putfield 151, 3) := by decide +kernel
theorem dX10_wipe_10 : decode cX10_wipe 10 = .ok (.return_, 1) := by decide +kernel
set_option maxRecDepth 20000 in
set_option maxHeartbeats 4000000 in
theorem w_X10_wipe {c : rX} {d : Nat} {S : rS} {K : Option Value → rS → Prop} (ho : rOK c)  (h : K none (rsi (rsi S 0 0 0) 2 0 0)) : rM c d eX10_wipe [.ref c.2.2.1] S K := by
  refine rM.of (by decide) (Nat.le_of_ble_eq_true rfl) ?_
  show rG c eX10_wipe d (rQ c K) 0 [some (.ref c.2.2.1)] [] S
  refine ag_aload_n dX10_wipe_0 rfl (Or.inr ⟨_, rfl⟩) ?_
  refine ag_iconst (v := 0) dX10_wipe_1 rfl ?_
  refine rr_put (S2 := (rsi S 0 0 0)) ho dX10_wipe_2 pw_10_148 rfl (fun _ => ⟨rfl, rfl⟩) rfl ?_
  refine ag_aload_n dX10_wipe_5 rfl (Or.inr ⟨_, rfl⟩) ?_
  refine ag_iconst (v := 0) dX10_wipe_6 rfl ?_
  refine rr_put (S2 := (rsi (rsi S 0 0 0) 2 0 0)) ho dX10_wipe_7 pw_10_151 rfl (fun _ => ⟨rfl, rfl⟩) rfl ?_
  exact ag_ret (v := none) dX10_wipe_10 rfl ⟨_, rfl, _, rfl, h⟩ rfl
theorem dX10_peek_0 : decode cX10_peek 0 = .ok (.aload_n 0, 1) := by decide +kernel
theorem dX10_peek_1 : decode cX10_peek 1 = .ok (.getfield 154, 3) := by decide +kernel
theorem dX10_peek_4 : decode cX10_peek 4 = .ok (.aload_n 0, 1) := by decide +kernel
theorem dX10_peek_5 : decode cX10_peek 5 = .ok (.getfield 151, 3) := by decide +kernel
theorem dX10_peek_8 : decode cX10_peek 8 = .ok (.if_icmp .ge 15, 3) := by decide +kernel
theorem dX10_peek_11 : decode cX10_peek 11 = .ok (.aload_n 0, 1) := by decide +kernel
theorem dX10_peek_12 : decode cX10_peek 12 = .ok (.getfield 13, 3) := by decide +kernel
theorem dX10_peek_15 : decode cX10_peek 15 = .ok (.aload_n 0, 1) := by decide +kernel
theorem dX10_peek_16 : decode cX10_peek 16 = .ok (.getfield 154, 3) := by decide +kernel
theorem dX10_peek_19 : decode cX10_peek 19 = .ok (.iaload, 1) := by decide +kernel
theorem dX10_peek_20 : decode cX10_peek 20 = .ok (.goto 4, 3) := by decide +kernel
theorem dX10_peek_23 : decode cX10_peek 23 = .ok (.iconst (-1), 1) := by decide +kernel
theorem dX10_peek_24 : decode cX10_peek 24 = .ok (.ireturn, 1) := by decide +kernel
set_option maxRecDepth 20000 in
set_option maxHeartbeats 4000000 in
theorem w_X10_peek {c : rX} {d : Nat} {S : rS} {K : Option Value → rS → Prop} (ho : rOK c)  (h : ((S.1 2 0) ≤ (S.1 20 0) → (K (some (.int (-1))) S)) ∧ (¬ (S.1 2 0) ≤ (S.1 20 0) → (∃ j2 : Nat, am_ix (S.1 20 0) j2 60 ∧ (K (some (.int (S.1 3 j2))) S)))) : rM c d eX10_peek [.ref c.2.2.1] S K := by
  refine rM.of (by decide) (Nat.le_of_ble_eq_true rfl) ?_
  show rG c eX10_peek d (rQ c K) 0 [some (.ref c.2.2.1)] [] S
  refine ag_aload_n dX10_peek_0 rfl (Or.inr ⟨_, rfl⟩) ?_
  refine rr_get (v := .int (S.1 20 0)) ho dX10_peek_1 fw_10_154 rfl ?_
  refine ag_aload_n dX10_peek_4 rfl (Or.inr ⟨_, rfl⟩) ?_
  refine rr_get (v := .int (S.1 2 0)) ho dX10_peek_5 fw_10_151 rfl ?_
  refine ag_icmp_ge (tgt := 23) dX10_peek_8 rfl (fun hc1 => ?_) (fun hc1 => ?_)
  · have h := h.1 hc1
    refine ag_iconst (v := (-1)) dX10_peek_23 rfl ?_
    exact ag_ret (v := some (.int (-1))) dX10_peek_24 ⟨_, rfl, rfl⟩ ⟨_, rfl, _, rfl, h⟩ rfl
  · have h := h.2 hc1
    refine ag_aload_n dX10_peek_11 rfl (Or.inr ⟨_, rfl⟩) ?_
    refine rr_get (v := .ref (c.2.2.1 + (0 + 1))) ho dX10_peek_12 fw_10_13 rfl ?_
    refine ag_aload_n dX10_peek_15 rfl (Or.inr ⟨_, rfl⟩) ?_
    refine rr_get (v := .int (S.1 20 0)) ho dX10_peek_16 fw_10_154 rfl ?_
    obtain ⟨j2, hj3, h⟩ := h
    refine rr_il (v := S.1 3 j2) ho dX10_peek_19 (k := 0) (f := 3) rfl hj3 rfl ?_
    refine ag_goto (tgt := 24) dX10_peek_20 rfl ?_
    exact ag_ret (v := some (.int (S.1 3 j2))) dX10_peek_24 ⟨_, rfl, rfl⟩ ⟨_, rfl, _, rfl, h⟩ rfl
theorem dX10_isLocal_0 : decode cX10_isLocal 0 = .ok (.iload_n 0, 1) := by decide +kernel
theorem dX10_isLocal_1 : decode cX10_isLocal 1 = .ok (.bipush 99, 2) := by decide +kernel
theorem dX10_isLocal_3 : decode cX10_isLocal 3 = .ok (.if_icmp .lt 13, 3) := by decide +kernel
theorem dX10_isLocal_6 : decode cX10_isLocal 6 = .ok (.iload_n 0, 1) := by decide +kernel
theorem dX10_isLocal_7 : decode cX10_isLocal 7 = .ok (.bipush 104, 2) := by decide +kernel
theorem dX10_isLocal_9 : decode cX10_isLocal 9 = .ok (.if_icmp .gt 7, 3) := by decide +kernel
theorem dX10_isLocal_12 : decode cX10_isLocal 12 = .ok (.iconst 1, 1) := by decide +kernel
theorem dX10_isLocal_13 : decode cX10_isLocal 13 = .ok (.goto 4, 3) := by decide +kernel
theorem dX10_isLocal_16 : decode cX10_isLocal 16 = .ok (.iconst 0, 1) := by decide +kernel
theorem dX10_isLocal_17 : decode cX10_isLocal 17 = .ok (.ireturn, 1) := by decide +kernel
set_option maxRecDepth 20000 in
set_option maxHeartbeats 4000000 in
theorem w_X10_isLocal {c : rX} {d : Nat} {S : rS} {K : Option Value → rS → Prop} (ho : rOK c) (p0 : Int32) (h : (p0 < 99 → (K (some (.int 0)) S)) ∧ (¬ p0 < 99 → ((104 < p0 → (K (some (.int 0)) S)) ∧ (¬ 104 < p0 → (K (some (.int 1)) S))))) : rM c d eX10_isLocal [.int p0] S K := by
  refine rM.of (by decide) (Nat.le_of_ble_eq_true rfl) ?_
  show rG c eX10_isLocal d (rQ c K) 0 [some (.int p0)] [] S
  refine ag_iload_n dX10_isLocal_0 rfl ?_
  refine ag_bipush (v := 99) dX10_isLocal_1 (by decide) ?_
  refine ag_icmp_lt (tgt := 16) dX10_isLocal_3 rfl (fun hc1 => ?_) (fun hc1 => ?_)
  · have h := h.1 hc1
    refine ag_iconst (v := 0) dX10_isLocal_16 rfl ?_
    exact ag_ret (v := some (.int 0)) dX10_isLocal_17 ⟨_, rfl, rB_n (Or.inl rfl)⟩ ⟨_, rfl, _, rfl, h⟩ rfl
  · have h := h.2 hc1
    refine ag_iload_n dX10_isLocal_6 rfl ?_
    refine ag_bipush (v := 104) dX10_isLocal_7 (by decide) ?_
    refine ag_icmp_gt (tgt := 16) dX10_isLocal_9 rfl (fun hc2 => ?_) (fun hc2 => ?_)
    · have h := h.1 hc2
      refine ag_iconst (v := 0) dX10_isLocal_16 rfl ?_
      exact ag_ret (v := some (.int 0)) dX10_isLocal_17 ⟨_, rfl, rB_n (Or.inl rfl)⟩ ⟨_, rfl, _, rfl, h⟩ rfl
    · have h := h.2 hc2
      refine ag_iconst (v := 1) dX10_isLocal_12 rfl ?_
      refine ag_goto (tgt := 17) dX10_isLocal_13 rfl ?_
      exact ag_ret (v := some (.int 1)) dX10_isLocal_17 ⟨_, rfl, rB_n (Or.inr rfl)⟩ ⟨_, rfl, _, rfl, h⟩ rfl
theorem dX10_create_0 : decode cX10_create 0 = .ok (.sipush 256, 3) := by decide +kernel
theorem dX10_create_3 : decode cX10_create 3 = .ok (.aload_n 0, 1) := by decide +kernel
theorem dX10_create_4 : decode cX10_create 4 = .ok (.getfield 38, 3) := by decide +kernel
theorem dX10_create_7 : decode cX10_create 7 = .ok (.iconst 4, 1) := by decide +kernel
theorem dX10_create_8 : decode cX10_create 8 = .ok (.iaload, 1) := by decide +kernel
theorem dX10_create_9 : decode cX10_create 9 = .ok (.iadd, 1) := by decide +kernel
theorem dX10_create_10 : decode cX10_create 10 = .ok (.istore 4, 2) := by decide +kernel
theorem dX10_create_12 : decode cX10_create 12 = .ok (.aload_n 0, 1) := by decide +kernel
theorem dX10_create_13 : decode cX10_create 13 = .ok (.getfield 38, 3) := by decide +kernel
theorem dX10_create_16 : decode cX10_create 16 = .ok (.iconst 4, 1) := by decide +kernel
theorem dX10_create_17 : decode cX10_create 17 = .ok (.dup2, 1) := by decide +kernel
theorem dX10_create_18 : decode cX10_create 18 = .ok (.iaload, 1) := by decide +kernel
theorem dX10_create_19 : decode cX10_create 19 = .ok (.iconst 1, 1) := by decide +kernel
theorem dX10_create_20 : decode cX10_create 20 = .ok (.iadd, 1) := by decide +kernel
theorem dX10_create_21 : decode cX10_create 21 = .ok (.iastore, 1) := by decide +kernel
theorem dX10_create_22 : decode cX10_create 22 = .ok (.aload_n 0, 1) := by decide +kernel
theorem dX10_create_23 : decode cX10_create 23 = .ok (.getfield 17, 3) := by decide +kernel
theorem dX10_create_26 : decode cX10_create 26 = .ok (.iload 4, 2) := by decide +kernel
theorem dX10_create_28 : decode cX10_create 28 = .ok (.iload_n 1, 1) := by decide +kernel
theorem dX10_create_29 : decode cX10_create 29 = .ok (.iastore, 1) := by decide +kernel
theorem dX10_create_30 : decode cX10_create 30 = .ok (.aload_n 0, 1) := by decide +kernel
theorem dX10_create_31 : decode cX10_create 31 = .ok (.getfield 29, 3) := by decide +kernel
theorem dX10_create_34 : decode cX10_create 34 = .ok (.iload 4, 2) := by decide +kernel
theorem dX10_create_36 : decode cX10_create 36 = .ok (.iload_n 2, 1) := by decide +kernel
theorem dX10_create_37 : decode cX10_create 37 = .ok (.iastore, 1) := by decide +kernel
theorem dX10_create_38 : decode cX10_create 38 = .ok (.aload_n 0, 1) := by decide +kernel
theorem dX10_create_39 : decode cX10_create 39 = .ok (.getfield 32, 3) := by decide +kernel
theorem dX10_create_42 : decode cX10_create 42 = .ok (.iload 4, 2) := by decide +kernel
theorem dX10_create_44 : decode cX10_create 44 = .ok (.iload_n 3, 1) := by decide +kernel
theorem dX10_create_45 : decode cX10_create 45 = .ok (.iastore, 1) := by decide +kernel
theorem dX10_create_46 : decode cX10_create 46 = .ok (.aload_n 0, 1) := by decide +kernel
theorem dX10_create_47 : decode cX10_create 47 = .ok (.getfield 20, 3) := by decide +kernel
theorem dX10_create_50 : decode cX10_create 50 = .ok (.iload 4, 2) := by decide +kernel
theorem dX10_create_52 : decode cX10_create 52 = .ok (.iconst (-1), 1) := by decide +kernel
theorem dX10_create_53 : decode cX10_create 53 = .ok (.iastore, 1) := by decide +kernel
theorem dX10_create_54 : decode cX10_create 54 = .ok (.aload_n 0, 1) := by decide +kernel
theorem dX10_create_55 : decode cX10_create 55 = .ok (.getfield 23, 3) := by decide +kernel
theorem dX10_create_58 : decode cX10_create 58 = .ok (.iload 4, 2) := by decide +kernel
theorem dX10_create_60 : decode cX10_create 60 = .ok (.iconst (-1), 1) := by decide +kernel
theorem dX10_create_61 : decode cX10_create 61 = .ok (.iastore, 1) := by decide +kernel
theorem dX10_create_62 : decode cX10_create 62 = .ok (.aload_n 0, 1) := by decide +kernel
theorem dX10_create_63 : decode cX10_create 63 = .ok (.getfield 26, 3) := by decide +kernel
theorem dX10_create_66 : decode cX10_create 66 = .ok (.iload 4, 2) := by decide +kernel
theorem dX10_create_68 : decode cX10_create 68 = .ok (.iconst (-1), 1) := by decide +kernel
theorem dX10_create_69 : decode cX10_create 69 = .ok (.iastore, 1) := by decide +kernel
theorem dX10_create_70 : decode cX10_create 70 = .ok (.iload 4, 2) := by decide +kernel
theorem dX10_create_72 : decode cX10_create 72 = .ok (.ireturn, 1) := by decide +kernel
set_option maxRecDepth 20000 in
set_option maxHeartbeats 4000000 in
theorem w_X10_create {c : rX} {d : Nat} {S : rS} {K : Option Value → rS → Prop} (ho : rOK c) (p0 : Int32) (p1 : Int32) (p2 : Int32) (h : ∃ j1 : Nat, am_ix (256 + (S.1 11 4)) j1 320 ∧ (∃ j3 : Nat, am_ix (256 + (S.1 11 4)) j3 320 ∧ (∃ j5 : Nat, am_ix (256 + (S.1 11 4)) j5 320 ∧ (∃ j7 : Nat, am_ix (256 + (S.1 11 4)) j7 320 ∧ (∃ j9 : Nat, am_ix (256 + (S.1 11 4)) j9 320 ∧ (∃ j11 : Nat, am_ix (256 + (S.1 11 4)) j11 320 ∧ (K (some (.int (256 + (S.1 11 4)))) (rsi (rsi (rsi (rsi (rsi (rsi (rsi S 11 4 ((S.1 11 4) + 1)) 4 j1 p0) 8 j3 p1) 9 j5 p2) 5 j7 (-1)) 6 j9 (-1)) 7 j11 (-1))))))))) : rM c d eX10_create [.ref c.2.2.1, .int p0, .int p1, .int p2] S K := by
  refine rM.of (by decide) (Nat.le_of_ble_eq_true rfl) ?_
  show rG c eX10_create d (rQ c K) 0 [some (.ref c.2.2.1), some (.int p0), some (.int p1), some (.int p2), none] [] S
  refine ag_sipush (v := 256) dX10_create_0 (by decide) ?_
  refine ag_aload_n dX10_create_3 rfl (Or.inr ⟨_, rfl⟩) ?_
  refine rr_get (v := .ref (c.2.2.1 + (8 + 1))) ho dX10_create_4 fw_10_38 rfl ?_
  refine ag_iconst (v := 4) dX10_create_7 rfl ?_
  refine rr_il (v := S.1 11 4) ho dX10_create_8 (k := 8) (f := 11) rfl ⟨by decide, by decide, by decide⟩ rfl ?_
  refine ag_iadd dX10_create_9 rfl ?_
  refine ag_istore (lv2 := [some (.ref c.2.2.1), some (.int p0), some (.int p1), some (.int p2), some (.int (256 + (S.1 11 4)))]) dX10_create_10 (Nat.le_of_ble_eq_true rfl) rfl ?_
  refine ag_aload_n dX10_create_12 rfl (Or.inr ⟨_, rfl⟩) ?_
  refine rr_get (v := .ref (c.2.2.1 + (8 + 1))) ho dX10_create_13 fw_10_38 rfl ?_
  refine ag_iconst (v := 4) dX10_create_16 rfl ?_
  refine ag_dup2 dX10_create_17 rfl rfl ?_
  refine rr_il (v := S.1 11 4) ho dX10_create_18 (k := 8) (f := 11) rfl ⟨by decide, by decide, by decide⟩ rfl ?_
  refine ag_iconst (v := 1) dX10_create_19 rfl ?_
  refine ag_iadd dX10_create_20 rfl ?_
  refine rr_is (S2 := (rsi S 11 4 ((S.1 11 4) + 1))) ho dX10_create_21 (k := 8) (f := 11) rfl ⟨by decide, by decide, by decide⟩ rfl ?_
  refine ag_aload_n dX10_create_22 rfl (Or.inr ⟨_, rfl⟩) ?_
  refine rr_get (v := .ref (c.2.2.1 + (1 + 1))) ho dX10_create_23 fw_10_17 rfl ?_
  refine ag_iload dX10_create_26 rfl ?_
  refine ag_iload_n dX10_create_28 rfl ?_
  obtain ⟨j1, hj2, h⟩ := h
  refine rr_is (S2 := (rsi (rsi S 11 4 ((S.1 11 4) + 1)) 4 j1 p0)) ho dX10_create_29 (k := 1) (f := 4) rfl hj2 rfl ?_
  refine ag_aload_n dX10_create_30 rfl (Or.inr ⟨_, rfl⟩) ?_
  refine rr_get (v := .ref (c.2.2.1 + (5 + 1))) ho dX10_create_31 fw_10_29 rfl ?_
  refine ag_iload dX10_create_34 rfl ?_
  refine ag_iload_n dX10_create_36 rfl ?_
  obtain ⟨j3, hj4, h⟩ := h
  refine rr_is (S2 := (rsi (rsi (rsi S 11 4 ((S.1 11 4) + 1)) 4 j1 p0) 8 j3 p1)) ho dX10_create_37 (k := 5) (f := 8) rfl hj4 rfl ?_
  refine ag_aload_n dX10_create_38 rfl (Or.inr ⟨_, rfl⟩) ?_
  refine rr_get (v := .ref (c.2.2.1 + (6 + 1))) ho dX10_create_39 fw_10_32 rfl ?_
  refine ag_iload dX10_create_42 rfl ?_
  refine ag_iload_n dX10_create_44 rfl ?_
  obtain ⟨j5, hj6, h⟩ := h
  refine rr_is (S2 := (rsi (rsi (rsi (rsi S 11 4 ((S.1 11 4) + 1)) 4 j1 p0) 8 j3 p1) 9 j5 p2)) ho dX10_create_45 (k := 6) (f := 9) rfl hj6 rfl ?_
  refine ag_aload_n dX10_create_46 rfl (Or.inr ⟨_, rfl⟩) ?_
  refine rr_get (v := .ref (c.2.2.1 + (2 + 1))) ho dX10_create_47 fw_10_20 rfl ?_
  refine ag_iload dX10_create_50 rfl ?_
  refine ag_iconst (v := (-1)) dX10_create_52 rfl ?_
  obtain ⟨j7, hj8, h⟩ := h
  refine rr_is (S2 := (rsi (rsi (rsi (rsi (rsi S 11 4 ((S.1 11 4) + 1)) 4 j1 p0) 8 j3 p1) 9 j5 p2) 5 j7 (-1))) ho dX10_create_53 (k := 2) (f := 5) rfl hj8 rfl ?_
  refine ag_aload_n dX10_create_54 rfl (Or.inr ⟨_, rfl⟩) ?_
  refine rr_get (v := .ref (c.2.2.1 + (3 + 1))) ho dX10_create_55 fw_10_23 rfl ?_
  refine ag_iload dX10_create_58 rfl ?_
  refine ag_iconst (v := (-1)) dX10_create_60 rfl ?_
  obtain ⟨j9, hj10, h⟩ := h
  refine rr_is (S2 := (rsi (rsi (rsi (rsi (rsi (rsi S 11 4 ((S.1 11 4) + 1)) 4 j1 p0) 8 j3 p1) 9 j5 p2) 5 j7 (-1)) 6 j9 (-1))) ho dX10_create_61 (k := 3) (f := 6) rfl hj10 rfl ?_
  refine ag_aload_n dX10_create_62 rfl (Or.inr ⟨_, rfl⟩) ?_
  refine rr_get (v := .ref (c.2.2.1 + (4 + 1))) ho dX10_create_63 fw_10_26 rfl ?_
  refine ag_iload dX10_create_66 rfl ?_
  refine ag_iconst (v := (-1)) dX10_create_68 rfl ?_
  obtain ⟨j11, hj12, h⟩ := h
  refine rr_is (S2 := (rsi (rsi (rsi (rsi (rsi (rsi (rsi S 11 4 ((S.1 11 4) + 1)) 4 j1 p0) 8 j3 p1) 9 j5 p2) 5 j7 (-1)) 6 j9 (-1)) 7 j11 (-1))) ho dX10_create_69 (k := 4) (f := 7) rfl hj12 rfl ?_
  refine ag_iload dX10_create_70 rfl ?_
  exact ag_ret (v := some (.int (256 + (S.1 11 4)))) dX10_create_72 ⟨_, rfl, rfl⟩ ⟨_, rfl, _, rfl, h⟩ rfl
theorem dX10_partsOf_0 : decode cX10_partsOf 0 = .ok (.iload_n 1, 1) := by decide +kernel
theorem dX10_partsOf_1 : decode cX10_partsOf 1 = .ok (.lookupswitch 179 #[(33, 155), (38, 157), (43, 157), (45, 157), (58, 157), (60, 157), (63, 159), (65, 155), (66, 155), (67, 157), (68, 155), (69, 155), (71, 161), (72, 161), (73, 161), (78, 155), (80, 155), (124, 157)], 155) := by decide +kernel
theorem dX10_partsOf_156 : decode cX10_partsOf 156 = .ok (.iconst 1, 1) := by decide +kernel
theorem dX10_partsOf_157 : decode cX10_partsOf 157 = .ok (.ireturn, 1) := by decide +kernel
theorem dX10_partsOf_158 : decode cX10_partsOf 158 = .ok (.iconst 2, 1) := by decide +kernel
theorem dX10_partsOf_159 : decode cX10_partsOf 159 = .ok (.ireturn, 1) := by decide +kernel
theorem dX10_partsOf_160 : decode cX10_partsOf 160 = .ok (.iconst 3, 1) := by decide +kernel
theorem dX10_partsOf_161 : decode cX10_partsOf 161 = .ok (.ireturn, 1) := by decide +kernel
theorem dX10_partsOf_162 : decode cX10_partsOf 162 = .ok (.aload_n 0, 1) := by decide +kernel
theorem dX10_partsOf_163 : decode cX10_partsOf 163 = .ok (.getfield 41, 3) := by decide +kernel
theorem dX10_partsOf_166 : decode cX10_partsOf 166 = .ok (.iload_n 1, 1) := by decide +kernel
theorem dX10_partsOf_167 : decode cX10_partsOf 167 = .ok (.bipush 71, 2) := by decide +kernel
theorem dX10_partsOf_169 : decode cX10_partsOf 169 = .ok (.isub, 1) := by decide +kernel
theorem dX10_partsOf_170 : decode cX10_partsOf 170 = .ok (.baload, 1) := by decide +kernel
theorem dX10_partsOf_171 : decode cX10_partsOf 171 = .ok (.ifCond .eq 7, 3) := by decide +kernel
theorem dX10_partsOf_174 : decode cX10_partsOf 174 = .ok (.iconst 1, 1) := by decide +kernel
theorem dX10_partsOf_175 : decode cX10_partsOf 175 = .ok (.goto 4, 3) := by decide +kernel
theorem dX10_partsOf_178 : decode cX10_partsOf 178 = .ok (.iconst (-1), 1) := by decide +kernel
theorem dX10_partsOf_179 : decode cX10_partsOf 179 = .ok (.ireturn, 1) := by decide +kernel
theorem dX10_partsOf_180 : decode cX10_partsOf 180 = .ok (.iconst (-1), 1) := by decide +kernel
theorem dX10_partsOf_181 : decode cX10_partsOf 181 = .ok (.ireturn, 1) := by decide +kernel
set_option maxRecDepth 20000 in
set_option maxHeartbeats 4000000 in
theorem w_X10_partsOf {c : rX} {d : Nat} {S : rS} {K : Option Value → rS → Prop} (ho : rOK c) (p0 : Int32) (h : (p0 = 33 ∨ p0 = 65 ∨ p0 = 66 ∨ p0 = 68 ∨ p0 = 69 ∨ p0 = 78 ∨ p0 = 80 → (K (some (.int 1)) S)) ∧ (p0 = 38 ∨ p0 = 43 ∨ p0 = 45 ∨ p0 = 58 ∨ p0 = 60 ∨ p0 = 67 ∨ p0 = 124 → (K (some (.int 2)) S)) ∧ (p0 = 63 → (K (some (.int 3)) S)) ∧ (p0 = 71 ∨ p0 = 72 ∨ p0 = 73 → (rG c eX10_partsOf d (rQ c K) 162 [some (.ref c.2.2.1), some (.int p0)] [] S)) ∧ (¬ p0 = 33 ∧ ¬ p0 = 38 ∧ ¬ p0 = 43 ∧ ¬ p0 = 45 ∧ ¬ p0 = 58 ∧ ¬ p0 = 60 ∧ ¬ p0 = 63 ∧ ¬ p0 = 65 ∧ ¬ p0 = 66 ∧ ¬ p0 = 67 ∧ ¬ p0 = 68 ∧ ¬ p0 = 69 ∧ ¬ p0 = 71 ∧ ¬ p0 = 72 ∧ ¬ p0 = 73 ∧ ¬ p0 = 78 ∧ ¬ p0 = 80 ∧ ¬ p0 = 124 → (K (some (.int (-1))) S))) : rM c d eX10_partsOf [.ref c.2.2.1, .int p0] S K := by
  refine rM.of (by decide) (Nat.le_of_ble_eq_true rfl) ?_
  show rG c eX10_partsOf d (rQ c K) 0 [some (.ref c.2.2.1), some (.int p0)] [] S
  refine ag_iload_n dX10_partsOf_0 rfl ?_
  obtain ⟨q1, q2, q3, q4, q5⟩ := h
  by_cases hk6 : p0 = 33
  · refine ag_lookup (tgt := 156) (off := 155) dX10_partsOf_1 (by decide) (by rw [hk6]; decide) rfl ?_
    have h := q1 (Or.inl hk6)
    refine ag_iconst (v := 1) dX10_partsOf_156 rfl ?_
    exact ag_ret (v := some (.int 1)) dX10_partsOf_157 ⟨_, rfl, rfl⟩ ⟨_, rfl, _, rfl, h⟩ rfl
  · by_cases hk7 : p0 = 38
    · refine ag_lookup (tgt := 158) (off := 157) dX10_partsOf_1 (by decide) (by rw [lv_osw (k := 33) hk6 (by decide)]; rw [hk7]; decide) rfl ?_
      have h := q2 (Or.inl hk7)
      refine ag_iconst (v := 2) dX10_partsOf_158 rfl ?_
      exact ag_ret (v := some (.int 2)) dX10_partsOf_159 ⟨_, rfl, rfl⟩ ⟨_, rfl, _, rfl, h⟩ rfl
    · by_cases hk8 : p0 = 43
      · refine ag_lookup (tgt := 158) (off := 157) dX10_partsOf_1 (by decide) (by rw [lv_osw (k := 33) hk6 (by decide)]; rw [lv_osw (k := 38) hk7 (by decide)]; rw [hk8]; decide) rfl ?_
        have h := q2 (Or.inr (Or.inl hk8))
        refine ag_iconst (v := 2) dX10_partsOf_158 rfl ?_
        exact ag_ret (v := some (.int 2)) dX10_partsOf_159 ⟨_, rfl, rfl⟩ ⟨_, rfl, _, rfl, h⟩ rfl
      · by_cases hk9 : p0 = 45
        · refine ag_lookup (tgt := 158) (off := 157) dX10_partsOf_1 (by decide) (by rw [lv_osw (k := 33) hk6 (by decide)]; rw [lv_osw (k := 38) hk7 (by decide)]; rw [lv_osw (k := 43) hk8 (by decide)]; rw [hk9]; decide) rfl ?_
          have h := q2 (Or.inr (Or.inr (Or.inl hk9)))
          refine ag_iconst (v := 2) dX10_partsOf_158 rfl ?_
          exact ag_ret (v := some (.int 2)) dX10_partsOf_159 ⟨_, rfl, rfl⟩ ⟨_, rfl, _, rfl, h⟩ rfl
        · by_cases hk10 : p0 = 58
          · refine ag_lookup (tgt := 158) (off := 157) dX10_partsOf_1 (by decide) (by rw [lv_osw (k := 33) hk6 (by decide)]; rw [lv_osw (k := 38) hk7 (by decide)]; rw [lv_osw (k := 43) hk8 (by decide)]; rw [lv_osw (k := 45) hk9 (by decide)]; rw [hk10]; decide) rfl ?_
            have h := q2 (Or.inr (Or.inr (Or.inr (Or.inl hk10))))
            refine ag_iconst (v := 2) dX10_partsOf_158 rfl ?_
            exact ag_ret (v := some (.int 2)) dX10_partsOf_159 ⟨_, rfl, rfl⟩ ⟨_, rfl, _, rfl, h⟩ rfl
          · by_cases hk11 : p0 = 60
            · refine ag_lookup (tgt := 158) (off := 157) dX10_partsOf_1 (by decide) (by rw [lv_osw (k := 33) hk6 (by decide)]; rw [lv_osw (k := 38) hk7 (by decide)]; rw [lv_osw (k := 43) hk8 (by decide)]; rw [lv_osw (k := 45) hk9 (by decide)]; rw [lv_osw (k := 58) hk10 (by decide)]; rw [hk11]; decide) rfl ?_
              have h := q2 (Or.inr (Or.inr (Or.inr (Or.inr (Or.inl hk11)))))
              refine ag_iconst (v := 2) dX10_partsOf_158 rfl ?_
              exact ag_ret (v := some (.int 2)) dX10_partsOf_159 ⟨_, rfl, rfl⟩ ⟨_, rfl, _, rfl, h⟩ rfl
            · by_cases hk12 : p0 = 63
              · refine ag_lookup (tgt := 160) (off := 159) dX10_partsOf_1 (by decide) (by rw [lv_osw (k := 33) hk6 (by decide)]; rw [lv_osw (k := 38) hk7 (by decide)]; rw [lv_osw (k := 43) hk8 (by decide)]; rw [lv_osw (k := 45) hk9 (by decide)]; rw [lv_osw (k := 58) hk10 (by decide)]; rw [lv_osw (k := 60) hk11 (by decide)]; rw [hk12]; decide) rfl ?_
                have h := q3 hk12
                refine ag_iconst (v := 3) dX10_partsOf_160 rfl ?_
                exact ag_ret (v := some (.int 3)) dX10_partsOf_161 ⟨_, rfl, rfl⟩ ⟨_, rfl, _, rfl, h⟩ rfl
              · by_cases hk13 : p0 = 65
                · refine ag_lookup (tgt := 156) (off := 155) dX10_partsOf_1 (by decide) (by rw [lv_osw (k := 33) hk6 (by decide)]; rw [lv_osw (k := 38) hk7 (by decide)]; rw [lv_osw (k := 43) hk8 (by decide)]; rw [lv_osw (k := 45) hk9 (by decide)]; rw [lv_osw (k := 58) hk10 (by decide)]; rw [lv_osw (k := 60) hk11 (by decide)]; rw [lv_osw (k := 63) hk12 (by decide)]; rw [hk13]; decide) rfl ?_
                  have h := q1 (Or.inr (Or.inl hk13))
                  refine ag_iconst (v := 1) dX10_partsOf_156 rfl ?_
                  exact ag_ret (v := some (.int 1)) dX10_partsOf_157 ⟨_, rfl, rfl⟩ ⟨_, rfl, _, rfl, h⟩ rfl
                · by_cases hk14 : p0 = 66
                  · refine ag_lookup (tgt := 156) (off := 155) dX10_partsOf_1 (by decide) (by rw [lv_osw (k := 33) hk6 (by decide)]; rw [lv_osw (k := 38) hk7 (by decide)]; rw [lv_osw (k := 43) hk8 (by decide)]; rw [lv_osw (k := 45) hk9 (by decide)]; rw [lv_osw (k := 58) hk10 (by decide)]; rw [lv_osw (k := 60) hk11 (by decide)]; rw [lv_osw (k := 63) hk12 (by decide)]; rw [lv_osw (k := 65) hk13 (by decide)]; rw [hk14]; decide) rfl ?_
                    have h := q1 (Or.inr (Or.inr (Or.inl hk14)))
                    refine ag_iconst (v := 1) dX10_partsOf_156 rfl ?_
                    exact ag_ret (v := some (.int 1)) dX10_partsOf_157 ⟨_, rfl, rfl⟩ ⟨_, rfl, _, rfl, h⟩ rfl
                  · by_cases hk15 : p0 = 67
                    · refine ag_lookup (tgt := 158) (off := 157) dX10_partsOf_1 (by decide) (by rw [lv_osw (k := 33) hk6 (by decide)]; rw [lv_osw (k := 38) hk7 (by decide)]; rw [lv_osw (k := 43) hk8 (by decide)]; rw [lv_osw (k := 45) hk9 (by decide)]; rw [lv_osw (k := 58) hk10 (by decide)]; rw [lv_osw (k := 60) hk11 (by decide)]; rw [lv_osw (k := 63) hk12 (by decide)]; rw [lv_osw (k := 65) hk13 (by decide)]; rw [lv_osw (k := 66) hk14 (by decide)]; rw [hk15]; decide) rfl ?_
                      have h := q2 (Or.inr (Or.inr (Or.inr (Or.inr (Or.inr (Or.inl hk15))))))
                      refine ag_iconst (v := 2) dX10_partsOf_158 rfl ?_
                      exact ag_ret (v := some (.int 2)) dX10_partsOf_159 ⟨_, rfl, rfl⟩ ⟨_, rfl, _, rfl, h⟩ rfl
                    · by_cases hk16 : p0 = 68
                      · refine ag_lookup (tgt := 156) (off := 155) dX10_partsOf_1 (by decide) (by rw [lv_osw (k := 33) hk6 (by decide)]; rw [lv_osw (k := 38) hk7 (by decide)]; rw [lv_osw (k := 43) hk8 (by decide)]; rw [lv_osw (k := 45) hk9 (by decide)]; rw [lv_osw (k := 58) hk10 (by decide)]; rw [lv_osw (k := 60) hk11 (by decide)]; rw [lv_osw (k := 63) hk12 (by decide)]; rw [lv_osw (k := 65) hk13 (by decide)]; rw [lv_osw (k := 66) hk14 (by decide)]; rw [lv_osw (k := 67) hk15 (by decide)]; rw [hk16]; decide) rfl ?_
                        have h := q1 (Or.inr (Or.inr (Or.inr (Or.inl hk16))))
                        refine ag_iconst (v := 1) dX10_partsOf_156 rfl ?_
                        exact ag_ret (v := some (.int 1)) dX10_partsOf_157 ⟨_, rfl, rfl⟩ ⟨_, rfl, _, rfl, h⟩ rfl
                      · by_cases hk17 : p0 = 69
                        · refine ag_lookup (tgt := 156) (off := 155) dX10_partsOf_1 (by decide) (by rw [lv_osw (k := 33) hk6 (by decide)]; rw [lv_osw (k := 38) hk7 (by decide)]; rw [lv_osw (k := 43) hk8 (by decide)]; rw [lv_osw (k := 45) hk9 (by decide)]; rw [lv_osw (k := 58) hk10 (by decide)]; rw [lv_osw (k := 60) hk11 (by decide)]; rw [lv_osw (k := 63) hk12 (by decide)]; rw [lv_osw (k := 65) hk13 (by decide)]; rw [lv_osw (k := 66) hk14 (by decide)]; rw [lv_osw (k := 67) hk15 (by decide)]; rw [lv_osw (k := 68) hk16 (by decide)]; rw [hk17]; decide) rfl ?_
                          have h := q1 (Or.inr (Or.inr (Or.inr (Or.inr (Or.inl hk17)))))
                          refine ag_iconst (v := 1) dX10_partsOf_156 rfl ?_
                          exact ag_ret (v := some (.int 1)) dX10_partsOf_157 ⟨_, rfl, rfl⟩ ⟨_, rfl, _, rfl, h⟩ rfl
                        · by_cases hk18 : p0 = 71
                          · refine ag_lookup (tgt := 162) (off := 161) dX10_partsOf_1 (by decide) (by rw [lv_osw (k := 33) hk6 (by decide)]; rw [lv_osw (k := 38) hk7 (by decide)]; rw [lv_osw (k := 43) hk8 (by decide)]; rw [lv_osw (k := 45) hk9 (by decide)]; rw [lv_osw (k := 58) hk10 (by decide)]; rw [lv_osw (k := 60) hk11 (by decide)]; rw [lv_osw (k := 63) hk12 (by decide)]; rw [lv_osw (k := 65) hk13 (by decide)]; rw [lv_osw (k := 66) hk14 (by decide)]; rw [lv_osw (k := 67) hk15 (by decide)]; rw [lv_osw (k := 68) hk16 (by decide)]; rw [lv_osw (k := 69) hk17 (by decide)]; rw [hk18]; decide) rfl ?_
                            have h := q4 (Or.inl hk18)
                            exact h
                          · by_cases hk19 : p0 = 72
                            · refine ag_lookup (tgt := 162) (off := 161) dX10_partsOf_1 (by decide) (by rw [lv_osw (k := 33) hk6 (by decide)]; rw [lv_osw (k := 38) hk7 (by decide)]; rw [lv_osw (k := 43) hk8 (by decide)]; rw [lv_osw (k := 45) hk9 (by decide)]; rw [lv_osw (k := 58) hk10 (by decide)]; rw [lv_osw (k := 60) hk11 (by decide)]; rw [lv_osw (k := 63) hk12 (by decide)]; rw [lv_osw (k := 65) hk13 (by decide)]; rw [lv_osw (k := 66) hk14 (by decide)]; rw [lv_osw (k := 67) hk15 (by decide)]; rw [lv_osw (k := 68) hk16 (by decide)]; rw [lv_osw (k := 69) hk17 (by decide)]; rw [lv_osw (k := 71) hk18 (by decide)]; rw [hk19]; decide) rfl ?_
                              have h := q4 (Or.inr (Or.inl hk19))
                              exact h
                            · by_cases hk20 : p0 = 73
                              · refine ag_lookup (tgt := 162) (off := 161) dX10_partsOf_1 (by decide) (by rw [lv_osw (k := 33) hk6 (by decide)]; rw [lv_osw (k := 38) hk7 (by decide)]; rw [lv_osw (k := 43) hk8 (by decide)]; rw [lv_osw (k := 45) hk9 (by decide)]; rw [lv_osw (k := 58) hk10 (by decide)]; rw [lv_osw (k := 60) hk11 (by decide)]; rw [lv_osw (k := 63) hk12 (by decide)]; rw [lv_osw (k := 65) hk13 (by decide)]; rw [lv_osw (k := 66) hk14 (by decide)]; rw [lv_osw (k := 67) hk15 (by decide)]; rw [lv_osw (k := 68) hk16 (by decide)]; rw [lv_osw (k := 69) hk17 (by decide)]; rw [lv_osw (k := 71) hk18 (by decide)]; rw [lv_osw (k := 72) hk19 (by decide)]; rw [hk20]; decide) rfl ?_
                                have h := q4 (Or.inr (Or.inr hk20))
                                exact h
                              · by_cases hk21 : p0 = 78
                                · refine ag_lookup (tgt := 156) (off := 155) dX10_partsOf_1 (by decide) (by rw [lv_osw (k := 33) hk6 (by decide)]; rw [lv_osw (k := 38) hk7 (by decide)]; rw [lv_osw (k := 43) hk8 (by decide)]; rw [lv_osw (k := 45) hk9 (by decide)]; rw [lv_osw (k := 58) hk10 (by decide)]; rw [lv_osw (k := 60) hk11 (by decide)]; rw [lv_osw (k := 63) hk12 (by decide)]; rw [lv_osw (k := 65) hk13 (by decide)]; rw [lv_osw (k := 66) hk14 (by decide)]; rw [lv_osw (k := 67) hk15 (by decide)]; rw [lv_osw (k := 68) hk16 (by decide)]; rw [lv_osw (k := 69) hk17 (by decide)]; rw [lv_osw (k := 71) hk18 (by decide)]; rw [lv_osw (k := 72) hk19 (by decide)]; rw [lv_osw (k := 73) hk20 (by decide)]; rw [hk21]; decide) rfl ?_
                                  have h := q1 (Or.inr (Or.inr (Or.inr (Or.inr (Or.inr (Or.inl hk21))))))
                                  refine ag_iconst (v := 1) dX10_partsOf_156 rfl ?_
                                  exact ag_ret (v := some (.int 1)) dX10_partsOf_157 ⟨_, rfl, rfl⟩ ⟨_, rfl, _, rfl, h⟩ rfl
                                · by_cases hk22 : p0 = 80
                                  · refine ag_lookup (tgt := 156) (off := 155) dX10_partsOf_1 (by decide) (by rw [lv_osw (k := 33) hk6 (by decide)]; rw [lv_osw (k := 38) hk7 (by decide)]; rw [lv_osw (k := 43) hk8 (by decide)]; rw [lv_osw (k := 45) hk9 (by decide)]; rw [lv_osw (k := 58) hk10 (by decide)]; rw [lv_osw (k := 60) hk11 (by decide)]; rw [lv_osw (k := 63) hk12 (by decide)]; rw [lv_osw (k := 65) hk13 (by decide)]; rw [lv_osw (k := 66) hk14 (by decide)]; rw [lv_osw (k := 67) hk15 (by decide)]; rw [lv_osw (k := 68) hk16 (by decide)]; rw [lv_osw (k := 69) hk17 (by decide)]; rw [lv_osw (k := 71) hk18 (by decide)]; rw [lv_osw (k := 72) hk19 (by decide)]; rw [lv_osw (k := 73) hk20 (by decide)]; rw [lv_osw (k := 78) hk21 (by decide)]; rw [hk22]; decide) rfl ?_
                                    have h := q1 (Or.inr (Or.inr (Or.inr (Or.inr (Or.inr (Or.inr hk22))))))
                                    refine ag_iconst (v := 1) dX10_partsOf_156 rfl ?_
                                    exact ag_ret (v := some (.int 1)) dX10_partsOf_157 ⟨_, rfl, rfl⟩ ⟨_, rfl, _, rfl, h⟩ rfl
                                  · by_cases hk23 : p0 = 124
                                    · refine ag_lookup (tgt := 158) (off := 157) dX10_partsOf_1 (by decide) (by rw [lv_osw (k := 33) hk6 (by decide)]; rw [lv_osw (k := 38) hk7 (by decide)]; rw [lv_osw (k := 43) hk8 (by decide)]; rw [lv_osw (k := 45) hk9 (by decide)]; rw [lv_osw (k := 58) hk10 (by decide)]; rw [lv_osw (k := 60) hk11 (by decide)]; rw [lv_osw (k := 63) hk12 (by decide)]; rw [lv_osw (k := 65) hk13 (by decide)]; rw [lv_osw (k := 66) hk14 (by decide)]; rw [lv_osw (k := 67) hk15 (by decide)]; rw [lv_osw (k := 68) hk16 (by decide)]; rw [lv_osw (k := 69) hk17 (by decide)]; rw [lv_osw (k := 71) hk18 (by decide)]; rw [lv_osw (k := 72) hk19 (by decide)]; rw [lv_osw (k := 73) hk20 (by decide)]; rw [lv_osw (k := 78) hk21 (by decide)]; rw [lv_osw (k := 80) hk22 (by decide)]; rw [hk23]; decide) rfl ?_
                                      have h := q2 (Or.inr (Or.inr (Or.inr (Or.inr (Or.inr (Or.inr hk23))))))
                                      refine ag_iconst (v := 2) dX10_partsOf_158 rfl ?_
                                      exact ag_ret (v := some (.int 2)) dX10_partsOf_159 ⟨_, rfl, rfl⟩ ⟨_, rfl, _, rfl, h⟩ rfl
                                    · refine ag_lookup (tgt := 180) (off := 179) dX10_partsOf_1 (by decide) (by rw [lv_osw (k := 33) hk6 (by decide)]; rw [lv_osw (k := 38) hk7 (by decide)]; rw [lv_osw (k := 43) hk8 (by decide)]; rw [lv_osw (k := 45) hk9 (by decide)]; rw [lv_osw (k := 58) hk10 (by decide)]; rw [lv_osw (k := 60) hk11 (by decide)]; rw [lv_osw (k := 63) hk12 (by decide)]; rw [lv_osw (k := 65) hk13 (by decide)]; rw [lv_osw (k := 66) hk14 (by decide)]; rw [lv_osw (k := 67) hk15 (by decide)]; rw [lv_osw (k := 68) hk16 (by decide)]; rw [lv_osw (k := 69) hk17 (by decide)]; rw [lv_osw (k := 71) hk18 (by decide)]; rw [lv_osw (k := 72) hk19 (by decide)]; rw [lv_osw (k := 73) hk20 (by decide)]; rw [lv_osw (k := 78) hk21 (by decide)]; rw [lv_osw (k := 80) hk22 (by decide)]; rw [lv_osw (k := 124) hk23 (by decide)]; rfl) rfl ?_
                                      have h := q5 ⟨hk6, hk7, hk8, hk9, hk10, hk11, hk12, hk13, hk14, hk15, hk16, hk17, hk18, hk19, hk20, hk21, hk22, hk23⟩
                                      refine ag_iconst (v := (-1)) dX10_partsOf_180 rfl ?_
                                      exact ag_ret (v := some (.int (-1))) dX10_partsOf_181 ⟨_, rfl, rfl⟩ ⟨_, rfl, _, rfl, h⟩ rfl
set_option maxRecDepth 20000 in
set_option maxHeartbeats 4000000 in
theorem w_X10_partsOf_162 {c : rX} {d : Nat} {S : rS} {K : Option Value → rS → Prop} (ho : rOK c) (v1 : Int32) (h : ∃ j1 : Nat, am_ix (v1 - 71) j1 3 ∧ (((S.1 12 j1) = 0 → (K (some (.int (-1))) S)) ∧ (¬ (S.1 12 j1) = 0 → (K (some (.int 1)) S)))) : rG c eX10_partsOf d (rQ c K) 162 [some (.ref c.2.2.1), some (.int v1)] [] S := by
  refine ag_aload_n dX10_partsOf_162 rfl (Or.inr ⟨_, rfl⟩) ?_
  refine rr_get (v := .ref (c.2.2.1 + (9 + 1))) ho dX10_partsOf_163 fw_10_41 rfl ?_
  refine ag_iload_n dX10_partsOf_166 rfl ?_
  refine ag_bipush (v := 71) dX10_partsOf_167 (by decide) ?_
  refine ag_isub dX10_partsOf_169 rfl ?_
  obtain ⟨j1, hj2, h⟩ := h
  refine rr_zl (v := S.1 12 j1) ho dX10_partsOf_170 (k := 9) (f := 12) rfl hj2 rfl ?_
  refine ag_if_eq (tgt := 178) dX10_partsOf_171 rfl (fun hc3 => ?_) (fun hc3 => ?_)
  · have h := h.1 hc3
    refine ag_iconst (v := (-1)) dX10_partsOf_178 rfl ?_
    exact ag_ret (v := some (.int (-1))) dX10_partsOf_179 ⟨_, rfl, rfl⟩ ⟨_, rfl, _, rfl, h⟩ rfl
  · have h := h.2 hc3
    refine ag_iconst (v := 1) dX10_partsOf_174 rfl ?_
    refine ag_goto (tgt := 179) dX10_partsOf_175 rfl ?_
    exact ag_ret (v := some (.int 1)) dX10_partsOf_179 ⟨_, rfl, rfl⟩ ⟨_, rfl, _, rfl, h⟩ rfl
theorem dX10_partsHad_0 : decode cX10_partsHad 0 = .ok (.aload_n 3, 1) := by decide +kernel
theorem dX10_partsHad_1 : decode cX10_partsHad 1 = .ok (.iload_n 0, 1) := by decide +kernel
theorem dX10_partsHad_2 : decode cX10_partsHad 2 = .ok (.iaload, 1) := by decide +kernel
theorem dX10_partsHad_3 : decode cX10_partsHad 3 = .ok (.iconst (-1), 1) := by decide +kernel
theorem dX10_partsHad_4 : decode cX10_partsHad 4 = .ok (.if_icmp .eq 7, 3) := by decide +kernel
theorem dX10_partsHad_7 : decode cX10_partsHad 7 = .ok (.iconst 3, 1) := by decide +kernel
theorem dX10_partsHad_8 : decode cX10_partsHad 8 = .ok (.goto 26, 3) := by decide +kernel
theorem dX10_partsHad_11 : decode cX10_partsHad 11 = .ok (.aload_n 2, 1) := by decide +kernel
theorem dX10_partsHad_12 : decode cX10_partsHad 12 = .ok (.iload_n 0, 1) := by decide +kernel
theorem dX10_partsHad_13 : decode cX10_partsHad 13 = .ok (.iaload, 1) := by decide +kernel
theorem dX10_partsHad_14 : decode cX10_partsHad 14 = .ok (.iconst (-1), 1) := by decide +kernel
theorem dX10_partsHad_15 : decode cX10_partsHad 15 = .ok (.if_icmp .eq 7, 3) := by decide +kernel
theorem dX10_partsHad_18 : decode cX10_partsHad 18 = .ok (.iconst 2, 1) := by decide +kernel
theorem dX10_partsHad_19 : decode cX10_partsHad 19 = .ok (.goto 15, 3) := by decide +kernel
theorem dX10_partsHad_22 : decode cX10_partsHad 22 = .ok (.aload_n 1, 1) := by decide +kernel
theorem dX10_partsHad_23 : decode cX10_partsHad 23 = .ok (.iload_n 0, 1) := by decide +kernel
theorem dX10_partsHad_24 : decode cX10_partsHad 24 = .ok (.iaload, 1) := by decide +kernel
theorem dX10_partsHad_25 : decode cX10_partsHad 25 = .ok (.iconst (-1), 1) := by decide +kernel
theorem dX10_partsHad_26 : decode cX10_partsHad 26 = .ok (.if_icmp .eq 7, 3) := by decide +kernel
theorem dX10_partsHad_29 : decode cX10_partsHad 29 = .ok (.iconst 1, 1) := by decide +kernel
theorem dX10_partsHad_30 : decode cX10_partsHad 30 = .ok (.goto 4, 3) := by decide +kernel
theorem dX10_partsHad_33 : decode cX10_partsHad 33 = .ok (.iconst 0, 1) := by decide +kernel
theorem dX10_partsHad_34 : decode cX10_partsHad 34 = .ok (.ireturn, 1) := by decide +kernel
set_option maxRecDepth 20000 in
set_option maxHeartbeats 4000000 in
theorem w_X10_partsHad {c : rX} {d : Nat} {S : rS} {K : Option Value → rS → Prop} (ho : rOK c) (p0 : Int32) {kp1 fp1 np1 : Nat} (hp1 : rT[kp1]? = some (fp1, 20, np1)) {kp2 fp2 np2 : Nat} (hp2 : rT[kp2]? = some (fp2, 20, np2)) {kp3 fp3 np3 : Nat} (hp3 : rT[kp3]? = some (fp3, 20, np3)) (h : ∃ j1 : Nat, am_ix p0 j1 np3 ∧ (((S.1 fp3 j1) = (-1) → (∃ j4 : Nat, am_ix p0 j4 np2 ∧ (((S.1 fp2 j4) = (-1) → (∃ j7 : Nat, am_ix p0 j7 np1 ∧ (((S.1 fp1 j7) = (-1) → (K (some (.int 0)) S)) ∧ (¬ (S.1 fp1 j7) = (-1) → (K (some (.int 1)) S))))) ∧ (¬ (S.1 fp2 j4) = (-1) → (K (some (.int 2)) S))))) ∧ (¬ (S.1 fp3 j1) = (-1) → (K (some (.int 3)) S)))) : rM c d eX10_partsHad [.int p0, .ref (c.2.2.1 + (kp1 + 1)), .ref (c.2.2.1 + (kp2 + 1)), .ref (c.2.2.1 + (kp3 + 1))] S K := by
  refine rM.of (by decide) (Nat.le_of_ble_eq_true rfl) ?_
  show rG c eX10_partsHad d (rQ c K) 0 [some (.int p0), some (.ref (c.2.2.1 + (kp1 + 1))), some (.ref (c.2.2.1 + (kp2 + 1))), some (.ref (c.2.2.1 + (kp3 + 1)))] [] S
  refine ag_aload_n dX10_partsHad_0 rfl (Or.inr ⟨_, rfl⟩) ?_
  refine ag_iload_n dX10_partsHad_1 rfl ?_
  obtain ⟨j1, hj2, h⟩ := h
  refine rr_il (v := S.1 fp3 j1) ho dX10_partsHad_2 hp3 hj2 rfl ?_
  refine ag_iconst (v := (-1)) dX10_partsHad_3 rfl ?_
  refine ag_icmp_eq (tgt := 11) dX10_partsHad_4 rfl (fun hc3 => ?_) (fun hc3 => ?_)
  · have h := h.1 hc3
    refine ag_aload_n dX10_partsHad_11 rfl (Or.inr ⟨_, rfl⟩) ?_
    refine ag_iload_n dX10_partsHad_12 rfl ?_
    obtain ⟨j4, hj5, h⟩ := h
    refine rr_il (v := S.1 fp2 j4) ho dX10_partsHad_13 hp2 hj5 rfl ?_
    refine ag_iconst (v := (-1)) dX10_partsHad_14 rfl ?_
    refine ag_icmp_eq (tgt := 22) dX10_partsHad_15 rfl (fun hc6 => ?_) (fun hc6 => ?_)
    · have h := h.1 hc6
      refine ag_aload_n dX10_partsHad_22 rfl (Or.inr ⟨_, rfl⟩) ?_
      refine ag_iload_n dX10_partsHad_23 rfl ?_
      obtain ⟨j7, hj8, h⟩ := h
      refine rr_il (v := S.1 fp1 j7) ho dX10_partsHad_24 hp1 hj8 rfl ?_
      refine ag_iconst (v := (-1)) dX10_partsHad_25 rfl ?_
      refine ag_icmp_eq (tgt := 33) dX10_partsHad_26 rfl (fun hc9 => ?_) (fun hc9 => ?_)
      · have h := h.1 hc9
        refine ag_iconst (v := 0) dX10_partsHad_33 rfl ?_
        exact ag_ret (v := some (.int 0)) dX10_partsHad_34 ⟨_, rfl, rfl⟩ ⟨_, rfl, _, rfl, h⟩ rfl
      · have h := h.2 hc9
        refine ag_iconst (v := 1) dX10_partsHad_29 rfl ?_
        refine ag_goto (tgt := 34) dX10_partsHad_30 rfl ?_
        exact ag_ret (v := some (.int 1)) dX10_partsHad_34 ⟨_, rfl, rfl⟩ ⟨_, rfl, _, rfl, h⟩ rfl
    · have h := h.2 hc6
      refine ag_iconst (v := 2) dX10_partsHad_18 rfl ?_
      refine ag_goto (tgt := 34) dX10_partsHad_19 rfl ?_
      exact ag_ret (v := some (.int 2)) dX10_partsHad_34 ⟨_, rfl, rfl⟩ ⟨_, rfl, _, rfl, h⟩ rfl
  · have h := h.2 hc3
    refine ag_iconst (v := 3) dX10_partsHad_7 rfl ?_
    refine ag_goto (tgt := 34) dX10_partsHad_8 rfl ?_
    exact ag_ret (v := some (.int 3)) dX10_partsHad_34 ⟨_, rfl, rfl⟩ ⟨_, rfl, _, rfl, h⟩ rfl
theorem dX10_give_0 : decode cX10_give 0 = .ok (.iload_n 1, 1) := by decide +kernel
theorem dX10_give_1 : decode cX10_give 1 = .ok (.aload_n 0, 1) := by decide +kernel
theorem dX10_give_2 : decode cX10_give 2 = .ok (.getfield 20, 3) := by decide +kernel
theorem dX10_give_5 : decode cX10_give 5 = .ok (.aload_n 0, 1) := by decide +kernel
theorem dX10_give_6 : decode cX10_give 6 = .ok (.getfield 23, 3) := by decide +kernel
theorem dX10_give_9 : decode cX10_give 9 = .ok (.aload_n 0, 1) := by decide +kernel
theorem dX10_give_10 : decode cX10_give 10 = .ok (.getfield 26, 3) := by decide +kernel
theorem dX10_give_13 : decode cX10_give 13 = .ok (.invokestatic 157, 3) := by decide +kernel
theorem dX10_give_16 : decode cX10_give 16 = .ok (.istore_n 3, 1) := by decide +kernel
theorem dX10_give_17 : decode cX10_give 17 = .ok (.iload_n 3, 1) := by decide +kernel
theorem dX10_give_18 : decode cX10_give 18 = .ok (.ifCond .ne 13, 3) := by decide +kernel
theorem dX10_give_21 : decode cX10_give 21 = .ok (.aload_n 0, 1) := by decide +kernel
theorem dX10_give_22 : decode cX10_give 22 = .ok (.getfield 20, 3) := by decide +kernel
theorem dX10_give_25 : decode cX10_give 25 = .ok (.iload_n 1, 1) := by decide +kernel
theorem dX10_give_26 : decode cX10_give 26 = .ok (.iload_n 2, 1) := by decide +kernel
theorem dX10_give_27 : decode cX10_give 27 = .ok (.iastore, 1) := by decide +kernel
theorem dX10_give_28 : decode cX10_give 28 = .ok (.goto 25, 3) := by decide +kernel
theorem dX10_give_31 : decode cX10_give 31 = .ok (.iload_n 3, 1) := by decide +kernel
theorem dX10_give_32 : decode cX10_give 32 = .ok (.iconst 1, 1) := by decide +kernel
theorem dX10_give_33 : decode cX10_give 33 = .ok (.if_icmp .ne 13, 3) := by decide +kernel
theorem dX10_give_36 : decode cX10_give 36 = .ok (.aload_n 0, 1) := by decide +kernel
theorem dX10_give_37 : decode cX10_give 37 = .ok (.getfield 23, 3) := by decide +kernel
theorem dX10_give_40 : decode cX10_give 40 = .ok (.iload_n 1, 1) := by decide +kernel
theorem dX10_give_41 : decode cX10_give 41 = .ok (.iload_n 2, 1) := by decide +kernel
theorem dX10_give_42 : decode cX10_give 42 = .ok (.iastore, 1) := by decide +kernel
theorem dX10_give_43 : decode cX10_give 43 = .ok (.goto 10, 3) := by decide +kernel
theorem dX10_give_46 : decode cX10_give 46 = .ok (.aload_n 0, 1) := by decide +kernel
theorem dX10_give_47 : decode cX10_give 47 = .ok (.getfield 26, 3) := by decide +kernel
theorem dX10_give_50 : decode cX10_give 50 = .ok (.iload_n 1, 1) := by decide +kernel
theorem dX10_give_51 : decode cX10_give 51 = .ok (.iload_n 2, 1) := by decide +kernel
theorem dX10_give_52 : decode cX10_give 52 = .ok (.iastore, 1) := by decide +kernel
theorem dX10_give_53 : decode cX10_give 53 = .ok (.iload_n 3, 1) := by decide +kernel
theorem dX10_give_54 : decode cX10_give 54 = .ok (.ifCond .ne 31, 3) := by decide +kernel
theorem dX10_give_57 : decode cX10_give 57 = .ok (.aload_n 0, 1) := by decide +kernel
theorem dX10_give_58 : decode cX10_give 58 = .ok (.getfield 17, 3) := by decide +kernel
theorem dX10_give_61 : decode cX10_give 61 = .ok (.iload_n 1, 1) := by decide +kernel
theorem dX10_give_62 : decode cX10_give 62 = .ok (.iaload, 1) := by decide +kernel
theorem dX10_give_63 : decode cX10_give 63 = .ok (.bipush 58, 2) := by decide +kernel
theorem dX10_give_65 : decode cX10_give 65 = .ok (.if_icmp .ne 20, 3) := by decide +kernel
theorem dX10_give_68 : decode cX10_give 68 = .ok (.aload_n 0, 1) := by decide +kernel
theorem dX10_give_69 : decode cX10_give 69 = .ok (.dup, 1) := by decide +kernel
theorem dX10_give_70 : decode cX10_give 70 = .ok (.getfield 161, 3) := by decide +kernel
theorem dX10_give_73 : decode cX10_give 73 = .ok (.iconst 1, 1) := by decide +kernel
theorem dX10_give_74 : decode cX10_give 74 = .ok (.aload_n 0, 1) := by decide +kernel
theorem dX10_give_75 : decode cX10_give 75 = .ok (.getfield 29, 3) := by decide +kernel
theorem dX10_give_78 : decode cX10_give 78 = .ok (.iload_n 1, 1) := by decide +kernel
theorem dX10_give_79 : decode cX10_give 79 = .ok (.iaload, 1) := by decide +kernel
theorem dX10_give_80 : decode cX10_give 80 = .ok (.ishl, 1) := by decide +kernel
theorem dX10_give_81 : decode cX10_give 81 = .ok (.ior, 1) := by decide +kernel
theorem dX10_give_82 : decode cX10_give 82 = .ok (.putfield 161, 3) := by decide +kernel
theorem dX10_give_85 : decode cX10_give 85 = .ok (.return_, 1) := by decide +kernel
set_option maxRecDepth 20000 in
set_option maxHeartbeats 4000000 in
theorem w_X10_give {c : rX} {d : Nat} {S : rS} {K : Option Value → rS → Prop} (ho : rOK c) (p0 : Int32) (p1 : Int32) (h : rM c d eX10_partsHad [.int p0, .ref (c.2.2.1 + (2 + 1)), .ref (c.2.2.1 + (3 + 1)), .ref (c.2.2.1 + (4 + 1))] S (fun v S1 => ∃ z2 : Int32, v = some (.int z2) ∧ ((¬ z2 = 0 → ((¬ z2 = 1 → (∃ j5 : Nat, am_ix p0 j5 320 ∧ (rG c eX10_give (d + 1) (rQ c K) 53 [some (.ref c.2.2.1), some (.int p0), none, some (.int z2)] [] (rsi S1 7 j5 p1)))) ∧ (z2 = 1 → (∃ j7 : Nat, am_ix p0 j7 320 ∧ (rG c eX10_give (d + 1) (rQ c K) 53 [some (.ref c.2.2.1), some (.int p0), none, some (.int z2)] [] (rsi S1 6 j7 p1)))))) ∧ (z2 = 0 → (∃ j9 : Nat, am_ix p0 j9 320 ∧ (rG c eX10_give (d + 1) (rQ c K) 53 [some (.ref c.2.2.1), some (.int p0), none, some (.int z2)] [] (rsi S1 5 j9 p1))))))) : rM c (d + 1) eX10_give [.ref c.2.2.1, .int p0, .int p1] S K := by
  refine rM.of (by decide) (Nat.le_of_ble_eq_true rfl) ?_
  show rG c eX10_give (d + 1) (rQ c K) 0 [some (.ref c.2.2.1), some (.int p0), some (.int p1), none] [] S
  refine ag_iload_n dX10_give_0 rfl ?_
  refine ag_aload_n dX10_give_1 rfl (Or.inr ⟨_, rfl⟩) ?_
  refine rr_get (v := .ref (c.2.2.1 + (2 + 1))) ho dX10_give_2 fw_10_20 rfl ?_
  refine ag_aload_n dX10_give_5 rfl (Or.inr ⟨_, rfl⟩) ?_
  refine rr_get (v := .ref (c.2.2.1 + (3 + 1))) ho dX10_give_6 fw_10_23 rfl ?_
  refine ag_aload_n dX10_give_9 rfl (Or.inr ⟨_, rfl⟩) ?_
  refine rr_get (v := .ref (c.2.2.1 + (4 + 1))) ho dX10_give_10 fw_10_26 rfl ?_
  refine rr_calls (as := [.int p0, .ref (c.2.2.1 + (2 + 1)), .ref (c.2.2.1 + (3 + 1)), .ref (c.2.2.1 + (4 + 1))]) (rest := []) dX10_give_13 me_X10_partsHad ms_X10_partsHad lk_10_157 rfl rfl (Nat.le_of_ble_eq_true rfl) ?_
  refine rM.mono h ?_
  rintro v S1 ⟨z2, rfl, h⟩
  show rG _ _ _ _ _ _ [.int z2] _
  refine ag_istore_n (lv2 := [some (.ref c.2.2.1), some (.int p0), some (.int p1), some (.int z2)]) dX10_give_16 (Nat.le_of_ble_eq_true rfl) rfl ?_
  refine ag_iload_n dX10_give_17 rfl ?_
  refine ag_if_ne (tgt := 31) dX10_give_18 rfl (fun hc3 => ?_) (fun hc3 => ?_)
  · have h := h.1 hc3
    refine ag_iload_n dX10_give_31 rfl ?_
    refine ag_iconst (v := 1) dX10_give_32 rfl ?_
    refine ag_icmp_ne (tgt := 46) dX10_give_33 rfl (fun hc4 => ?_) (fun hc4 => ?_)
    · have h := h.1 hc4
      refine ag_aload_n dX10_give_46 rfl (Or.inr ⟨_, rfl⟩) ?_
      refine rr_get (v := .ref (c.2.2.1 + (4 + 1))) ho dX10_give_47 fw_10_26 rfl ?_
      refine ag_iload_n dX10_give_50 rfl ?_
      refine ag_iload_n dX10_give_51 rfl ?_
      obtain ⟨j5, hj6, h⟩ := h
      refine rr_is (S2 := (rsi S1 7 j5 p1)) ho dX10_give_52 (k := 4) (f := 7) rfl hj6 rfl ?_
      refine ag_drop 2 ?_
      exact h
    · have h := h.2 hc4
      refine ag_aload_n dX10_give_36 rfl (Or.inr ⟨_, rfl⟩) ?_
      refine rr_get (v := .ref (c.2.2.1 + (3 + 1))) ho dX10_give_37 fw_10_23 rfl ?_
      refine ag_iload_n dX10_give_40 rfl ?_
      refine ag_iload_n dX10_give_41 rfl ?_
      obtain ⟨j7, hj8, h⟩ := h
      refine rr_is (S2 := (rsi S1 6 j7 p1)) ho dX10_give_42 (k := 3) (f := 6) rfl hj8 rfl ?_
      refine ag_goto (tgt := 53) dX10_give_43 rfl ?_
      refine ag_drop 2 ?_
      exact h
  · have h := h.2 hc3
    refine ag_aload_n dX10_give_21 rfl (Or.inr ⟨_, rfl⟩) ?_
    refine rr_get (v := .ref (c.2.2.1 + (2 + 1))) ho dX10_give_22 fw_10_20 rfl ?_
    refine ag_iload_n dX10_give_25 rfl ?_
    refine ag_iload_n dX10_give_26 rfl ?_
    obtain ⟨j9, hj10, h⟩ := h
    refine rr_is (S2 := (rsi S1 5 j9 p1)) ho dX10_give_27 (k := 2) (f := 5) rfl hj10 rfl ?_
    refine ag_goto (tgt := 53) dX10_give_28 rfl ?_
    refine ag_drop 2 ?_
    exact h
set_option maxRecDepth 20000 in
set_option maxHeartbeats 4000000 in
theorem w_X10_give_53 {c : rX} {d : Nat} {S : rS} {K : Option Value → rS → Prop} (ho : rOK c) (v1 : Int32) (v3 : Int32) (h : (¬ v3 = 0 → (K none S)) ∧ (v3 = 0 → (∃ j2 : Nat, am_ix v1 j2 320 ∧ ((¬ (S.1 4 j2) = 58 → (K none S)) ∧ ((S.1 4 j2) = 58 → (∃ j5 : Nat, am_ix v1 j5 320 ∧ (K none (rsi S 22 0 ((S.1 22 0) ||| (1 <<< ((S.1 8 j5) &&& 31))))))))))) : rG c eX10_give (d + 1) (rQ c K) 53 [some (.ref c.2.2.1), some (.int v1), none, some (.int v3)] [] S := by
  refine ag_iload_n dX10_give_53 rfl ?_
  refine ag_if_ne (tgt := 85) dX10_give_54 rfl (fun hc1 => ?_) (fun hc1 => ?_)
  · have h := h.1 hc1
    exact ag_ret (v := none) dX10_give_85 rfl ⟨_, rfl, _, rfl, h⟩ rfl
  · have h := h.2 hc1
    refine ag_aload_n dX10_give_57 rfl (Or.inr ⟨_, rfl⟩) ?_
    refine rr_get (v := .ref (c.2.2.1 + (1 + 1))) ho dX10_give_58 fw_10_17 rfl ?_
    refine ag_iload_n dX10_give_61 rfl ?_
    obtain ⟨j2, hj3, h⟩ := h
    refine rr_il (v := S.1 4 j2) ho dX10_give_62 (k := 1) (f := 4) rfl hj3 rfl ?_
    refine ag_bipush (v := 58) dX10_give_63 (by decide) ?_
    refine ag_icmp_ne (tgt := 85) dX10_give_65 rfl (fun hc4 => ?_) (fun hc4 => ?_)
    · have h := h.1 hc4
      exact ag_ret (v := none) dX10_give_85 rfl ⟨_, rfl, _, rfl, h⟩ rfl
    · have h := h.2 hc4
      refine ag_aload_n dX10_give_68 rfl (Or.inr ⟨_, rfl⟩) ?_
      refine ag_dup dX10_give_69 rfl ?_
      refine rr_get (v := .int (S.1 22 0)) ho dX10_give_70 fw_10_161 rfl ?_
      refine ag_iconst (v := 1) dX10_give_73 rfl ?_
      refine ag_aload_n dX10_give_74 rfl (Or.inr ⟨_, rfl⟩) ?_
      refine rr_get (v := .ref (c.2.2.1 + (5 + 1))) ho dX10_give_75 fw_10_29 rfl ?_
      refine ag_iload_n dX10_give_78 rfl ?_
      obtain ⟨j5, hj6, h⟩ := h
      refine rr_il (v := S.1 8 j5) ho dX10_give_79 (k := 5) (f := 8) rfl hj6 rfl ?_
      refine ag_ishl dX10_give_80 rfl ?_
      refine ag_ior dX10_give_81 rfl ?_
      refine rr_put (S2 := (rsi S 22 0 ((S.1 22 0) ||| (1 <<< ((S.1 8 j5) &&& 31))))) ho dX10_give_82 pw_10_161 rfl (fun _ => ⟨rfl, rfl⟩) rfl ?_
      exact ag_ret (v := none) dX10_give_85 rfl ⟨_, rfl, _, rfl, h⟩ rfl
theorem dX10_readExpression_0 : decode cX10_readExpression 0 = .ok (.aload_n 0, 1) := by decide +kernel
theorem dX10_readExpression_1 : decode cX10_readExpression 1 = .ok (.iconst 0, 1) := by decide +kernel
theorem dX10_readExpression_2 : decode cX10_readExpression 2 = .ok (.putfield 164, 3) := by decide +kernel
theorem dX10_readExpression_5 : decode cX10_readExpression 5 = .ok (.iconst (-1), 1) := by decide +kernel
theorem dX10_readExpression_6 : decode cX10_readExpression 6 = .ok (.istore_n 1, 1) := by decide +kernel
theorem dX10_readExpression_7 : decode cX10_readExpression 7 = .ok (.iload_n 1, 1) := by decide +kernel
theorem dX10_readExpression_8 : decode cX10_readExpression 8 = .ok (.iconst (-1), 1) := by decide +kernel
theorem dX10_readExpression_9 : decode cX10_readExpression 9 = .ok (.if_icmp .ne 28, 3) := by decide +kernel
theorem dX10_readExpression_12 : decode cX10_readExpression 12 = .ok (.aload_n 0, 1) := by decide +kernel
theorem dX10_readExpression_13 : decode cX10_readExpression 13 = .ok (.getfield 167, 3) := by decide +kernel
theorem dX10_readExpression_16 : decode cX10_readExpression 16 = .ok (.ifCond .ne 21, 3) := by decide +kernel
theorem dX10_readExpression_19 : decode cX10_readExpression 19 = .ok (.aload_n 0, 1) := by decide +kernel
theorem dX10_readExpression_20 : decode cX10_readExpression 20 = .ok (.invokevirtual 171, 3) := by decide +kernel
theorem dX10_readExpression_23 : decode cX10_readExpression 23 = .ok (.istore_n 2, 1) := by decide +kernel
theorem dX10_readExpression_24 : decode cX10_readExpression 24 = .ok (.iload_n 2, 1) := by decide +kernel
theorem dX10_readExpression_25 : decode cX10_readExpression 25 = .ok (.iconst (-1), 1) := by decide +kernel
theorem dX10_readExpression_26 : decode cX10_readExpression 26 = .ok (.if_icmp .ne 6, 3) := by decide +kernel
theorem dX10_readExpression_29 : decode cX10_readExpression 29 = .ok (.goto (-22), 3) := by decide +kernel
theorem dX10_readExpression_32 : decode cX10_readExpression 32 = .ok (.iload_n 2, 1) := by decide +kernel
theorem dX10_readExpression_33 : decode cX10_readExpression 33 = .ok (.istore_n 1, 1) := by decide +kernel
theorem dX10_readExpression_34 : decode cX10_readExpression 34 = .ok (.goto (-27), 3) := by decide +kernel
theorem dX10_readExpression_37 : decode cX10_readExpression 37 = .ok (.iload_n 1, 1) := by decide +kernel
theorem dX10_readExpression_38 : decode cX10_readExpression 38 = .ok (.ireturn, 1) := by decide +kernel
set_option maxRecDepth 20000 in
set_option maxHeartbeats 4000000 in
theorem w_X10_readExpression {c : rX} {d : Nat} {S : rS} {K : Option Value → rS → Prop} (ho : rOK c)  (h : rG c eX10_readExpression (d + 1) (rQ c K) 7 [some (.ref c.2.2.1), some (.int (-1)), none] [] (rsi S 21 0 0)) : rM c (d + 1) eX10_readExpression [.ref c.2.2.1] S K := by
  refine rM.of (by decide) (Nat.le_of_ble_eq_true rfl) ?_
  show rG c eX10_readExpression (d + 1) (rQ c K) 0 [some (.ref c.2.2.1), none, none] [] S
  refine ag_aload_n dX10_readExpression_0 rfl (Or.inr ⟨_, rfl⟩) ?_
  refine ag_iconst (v := 0) dX10_readExpression_1 rfl ?_
  refine rr_put (S2 := (rsi S 21 0 0)) ho dX10_readExpression_2 pw_10_164 rfl (fun _ => ⟨rfl, rfl⟩) rfl ?_
  refine ag_iconst (v := (-1)) dX10_readExpression_5 rfl ?_
  refine ag_istore_n (lv2 := [some (.ref c.2.2.1), some (.int (-1)), none]) dX10_readExpression_6 (Nat.le_of_ble_eq_true rfl) rfl ?_
  exact h
set_option maxRecDepth 20000 in
set_option maxHeartbeats 4000000 in
theorem w_X10_readExpression_7 {c : rX} {d : Nat} {S : rS} {K : Option Value → rS → Prop} (ho : rOK c) (v1 : Int32) (h : (¬ v1 = (-1) → (K (some (.int v1)) S)) ∧ (v1 = (-1) → ((¬ (S.1 23 0) = 0 → (K (some (.int v1)) S)) ∧ ((S.1 23 0) = 0 → (rM c d eX10_readPart (.ref c.2.2.1 :: []) S (fun v S3 => ∃ z4 : Int32, v = some (.int z4) ∧ ((¬ z4 = (-1) → (rG c eX10_readExpression (d + 1) (rQ c K) 7 [some (.ref c.2.2.1), some (.int z4), none] [] S3)) ∧ (z4 = (-1) → (rG c eX10_readExpression (d + 1) (rQ c K) 7 [some (.ref c.2.2.1), some (.int v1), none] [] S3))))))))) : rG c eX10_readExpression (d + 1) (rQ c K) 7 [some (.ref c.2.2.1), some (.int v1), none] [] S := by
  refine ag_iload_n dX10_readExpression_7 rfl ?_
  refine ag_iconst (v := (-1)) dX10_readExpression_8 rfl ?_
  refine ag_icmp_ne (tgt := 37) dX10_readExpression_9 rfl (fun hc1 => ?_) (fun hc1 => ?_)
  · have h := h.1 hc1
    refine ag_iload_n dX10_readExpression_37 rfl ?_
    exact ag_ret (v := some (.int v1)) dX10_readExpression_38 ⟨_, rfl, rfl⟩ ⟨_, rfl, _, rfl, h⟩ rfl
  · have h := h.2 hc1
    refine ag_aload_n dX10_readExpression_12 rfl (Or.inr ⟨_, rfl⟩) ?_
    refine rr_get (v := .int (S.1 23 0)) ho dX10_readExpression_13 fw_10_167 rfl ?_
    refine ag_if_ne (tgt := 37) dX10_readExpression_16 rfl (fun hc2 => ?_) (fun hc2 => ?_)
    · have h := h.1 hc2
      refine ag_iload_n dX10_readExpression_37 rfl ?_
      exact ag_ret (v := some (.int v1)) dX10_readExpression_38 ⟨_, rfl, rfl⟩ ⟨_, rfl, _, rfl, h⟩ rfl
    · have h := h.2 hc2
      refine ag_aload_n dX10_readExpression_19 rfl (Or.inr ⟨_, rfl⟩) ?_
      refine rr_call (as := []) (rest := []) ho dX10_readExpression_20 me_X10_readPart mi_X10_readPart lk_10_171 rfl rfl (Nat.le_of_ble_eq_true rfl) ?_
      refine rM.mono h ?_
      rintro v S3 ⟨z4, rfl, h⟩
      show rG _ _ _ _ _ _ [.int z4] _
      refine ag_istore_n (lv2 := [some (.ref c.2.2.1), some (.int v1), some (.int z4)]) dX10_readExpression_23 (Nat.le_of_ble_eq_true rfl) rfl ?_
      refine ag_iload_n dX10_readExpression_24 rfl ?_
      refine ag_iconst (v := (-1)) dX10_readExpression_25 rfl ?_
      refine ag_icmp_ne (tgt := 32) dX10_readExpression_26 rfl (fun hc5 => ?_) (fun hc5 => ?_)
      · have h := h.1 hc5
        refine ag_iload_n dX10_readExpression_32 rfl ?_
        refine ag_istore_n (lv2 := [some (.ref c.2.2.1), some (.int z4), some (.int z4)]) dX10_readExpression_33 (Nat.le_of_ble_eq_true rfl) rfl ?_
        refine ag_goto (tgt := 7) dX10_readExpression_34 rfl ?_
        refine ag_drop 2 ?_
        exact h
      · have h := h.2 hc5
        refine ag_goto (tgt := 7) dX10_readExpression_29 rfl ?_
        refine ag_drop 2 ?_
        exact h
theorem dX10_readPart_0 : decode cX10_readPart 0 = .ok (.aload_n 0, 1) := by decide +kernel
theorem dX10_readPart_1 : decode cX10_readPart 1 = .ok (.invokevirtual 175, 3) := by decide +kernel
theorem dX10_readPart_4 : decode cX10_readPart 4 = .ok (.istore_n 1, 1) := by decide +kernel
theorem dX10_readPart_5 : decode cX10_readPart 5 = .ok (.iconst (-1), 1) := by decide +kernel
theorem dX10_readPart_6 : decode cX10_readPart 6 = .ok (.istore_n 2, 1) := by decide +kernel
theorem dX10_readPart_7 : decode cX10_readPart 7 = .ok (.iload_n 1, 1) := by decide +kernel
theorem dX10_readPart_8 : decode cX10_readPart 8 = .ok (.bipush 48, 2) := by decide +kernel
theorem dX10_readPart_10 : decode cX10_readPart 10 = .ok (.if_icmp .lt 27, 3) := by decide +kernel
theorem dX10_readPart_13 : decode cX10_readPart 13 = .ok (.iload_n 1, 1) := by decide +kernel
theorem dX10_readPart_14 : decode cX10_readPart 14 = .ok (.bipush 57, 2) := by decide +kernel
theorem dX10_readPart_16 : decode cX10_readPart 16 = .ok (.if_icmp .gt 21, 3) := by decide +kernel
theorem dX10_readPart_19 : decode cX10_readPart 19 = .ok (.aload_n 0, 1) := by decide +kernel
theorem dX10_readPart_20 : decode cX10_readPart 20 = .ok (.bipush 48, 2) := by decide +kernel
theorem dX10_readPart_22 : decode cX10_readPart 22 = .ok (.iload_n 1, 1) := by decide +kernel
theorem dX10_readPart_23 : decode cX10_readPart 23 = .ok (.bipush 48, 2) := by decide +kernel
theorem dX10_readPart_25 : decode cX10_readPart 25 = .ok (.isub, 1) := by decide +kernel
theorem dX10_readPart_26 : decode cX10_readPart 26 = .ok (.aload_n 0, 1) := by decide +kernel
theorem dX10_readPart_27 : decode cX10_readPart 27 = .ok (.getfield 154, 3) := by decide +kernel
theorem dX10_readPart_30 : decode cX10_readPart 30 = .ok (.invokevirtual 178, 3) := by decide +kernel
theorem dX10_readPart_33 : decode cX10_readPart 33 = .ok (.istore_n 2, 1) := by decide +kernel
theorem dX10_readPart_34 : decode cX10_readPart 34 = .ok (.goto 108, 3) := by decide +kernel
theorem dX10_readPart_37 : decode cX10_readPart 37 = .ok (.iload_n 1, 1) := by decide +kernel
theorem dX10_readPart_38 : decode cX10_readPart 38 = .ok (.bipush 35, 2) := by decide +kernel
theorem dX10_readPart_40 : decode cX10_readPart 40 = .ok (.if_icmp .eq 15, 3) := by decide +kernel
theorem dX10_readPart_43 : decode cX10_readPart 43 = .ok (.iload_n 1, 1) := by decide +kernel
theorem dX10_readPart_44 : decode cX10_readPart 44 = .ok (.bipush 126, 2) := by decide +kernel
theorem dX10_readPart_46 : decode cX10_readPart 46 = .ok (.if_icmp .eq 9, 3) := by decide +kernel
theorem dX10_readPart_49 : decode cX10_readPart 49 = .ok (.iload_n 1, 1) := by decide +kernel
theorem dX10_readPart_50 : decode cX10_readPart 50 = .ok (.bipush 46, 2) := by decide +kernel
theorem dX10_readPart_52 : decode cX10_readPart 52 = .ok (.if_icmp .ne 17, 3) := by decide +kernel
theorem dX10_readPart_55 : decode cX10_readPart 55 = .ok (.aload_n 0, 1) := by decide +kernel
theorem dX10_readPart_56 : decode cX10_readPart 56 = .ok (.iload_n 1, 1) := by decide +kernel
theorem dX10_readPart_57 : decode cX10_readPart 57 = .ok (.iconst 0, 1) := by decide +kernel
theorem dX10_readPart_58 : decode cX10_readPart 58 = .ok (.aload_n 0, 1) := by decide +kernel
theorem dX10_readPart_59 : decode cX10_readPart 59 = .ok (.getfield 154, 3) := by decide +kernel
theorem dX10_readPart_62 : decode cX10_readPart 62 = .ok (.invokevirtual 178, 3) := by decide +kernel
theorem dX10_readPart_65 : decode cX10_readPart 65 = .ok (.istore_n 2, 1) := by decide +kernel
theorem dX10_readPart_66 : decode cX10_readPart 66 = .ok (.goto 76, 3) := by decide +kernel
theorem dX10_readPart_69 : decode cX10_readPart 69 = .ok (.iload_n 1, 1) := by decide +kernel
theorem dX10_readPart_70 : decode cX10_readPart 70 = .ok (.bipush 97, 2) := by decide +kernel
theorem dX10_readPart_72 : decode cX10_readPart 72 = .ok (.if_icmp .lt 42, 3) := by decide +kernel
theorem dX10_readPart_75 : decode cX10_readPart 75 = .ok (.iload_n 1, 1) := by decide +kernel
theorem dX10_readPart_76 : decode cX10_readPart 76 = .ok (.bipush 104, 2) := by decide +kernel
theorem dX10_readPart_78 : decode cX10_readPart 78 = .ok (.if_icmp .gt 36, 3) := by decide +kernel
theorem dX10_readPart_81 : decode cX10_readPart 81 = .ok (.aload_n 0, 1) := by decide +kernel
theorem dX10_readPart_82 : decode cX10_readPart 82 = .ok (.getfield 161, 3) := by decide +kernel
theorem dX10_readPart_85 : decode cX10_readPart 85 = .ok (.iload_n 1, 1) := by decide +kernel
theorem dX10_readPart_86 : decode cX10_readPart 86 = .ok (.bipush 97, 2) := by decide +kernel
theorem dX10_readPart_88 : decode cX10_readPart 88 = .ok (.isub, 1) := by decide +kernel
theorem dX10_readPart_89 : decode cX10_readPart 89 = .ok (.ishr, 1) := by decide +kernel
theorem dX10_readPart_90 : decode cX10_readPart 90 = .ok (.iconst 1, 1) := by decide +kernel
theorem dX10_readPart_91 : decode cX10_readPart 91 = .ok (.iand, 1) := by decide +kernel
theorem dX10_readPart_92 : decode cX10_readPart 92 = .ok (.iconst 1, 1) := by decide +kernel
theorem dX10_readPart_93 : decode cX10_readPart 93 = .ok (.if_icmp .ne 21, 3) := by decide +kernel
theorem dX10_readPart_96 : decode cX10_readPart 96 = .ok (.aload_n 0, 1) := by decide +kernel
theorem dX10_readPart_97 : decode cX10_readPart 97 = .ok (.bipush 97, 2) := by decide +kernel
theorem dX10_readPart_99 : decode cX10_readPart 99 = .ok (.iload_n 1, 1) := by decide +kernel
theorem dX10_readPart_100 : decode cX10_readPart 100 = .ok (.bipush 97, 2) := by decide +kernel
theorem dX10_readPart_102 : decode cX10_readPart 102 = .ok (.isub, 1) := by decide +kernel
theorem dX10_readPart_103 : decode cX10_readPart 103 = .ok (.aload_n 0, 1) := by decide +kernel
theorem dX10_readPart_104 : decode cX10_readPart 104 = .ok (.getfield 154, 3) := by decide +kernel
theorem dX10_readPart_107 : decode cX10_readPart 107 = .ok (.invokevirtual 178, 3) := by decide +kernel
theorem dX10_readPart_110 : decode cX10_readPart 110 = .ok (.istore_n 2, 1) := by decide +kernel
theorem dX10_readPart_111 : decode cX10_readPart 111 = .ok (.goto 31, 3) := by decide +kernel
theorem dX10_readPart_114 : decode cX10_readPart 114 = .ok (.iload_n 1, 1) := by decide +kernel
theorem dX10_readPart_115 : decode cX10_readPart 115 = .ok (.bipush 40, 2) := by decide +kernel
theorem dX10_readPart_117 : decode cX10_readPart 117 = .ok (.if_icmp .ne 18, 3) := by decide +kernel
theorem dX10_readPart_120 : decode cX10_readPart 120 = .ok (.aload_n 0, 1) := by decide +kernel
theorem dX10_readPart_121 : decode cX10_readPart 121 = .ok (.getfield 164, 3) := by decide +kernel
theorem dX10_readPart_124 : decode cX10_readPart 124 = .ok (.bipush 6, 2) := by decide +kernel
theorem dX10_readPart_126 : decode cX10_readPart 126 = .ok (.if_icmp .ge 9, 3) := by decide +kernel
theorem dX10_readPart_129 : decode cX10_readPart 129 = .ok (.aload_n 0, 1) := by decide +kernel
theorem dX10_readPart_130 : decode cX10_readPart 130 = .ok (.invokevirtual 182, 3) := by decide +kernel
theorem dX10_readPart_133 : decode cX10_readPart 133 = .ok (.iconst (-1), 1) := by decide +kernel
theorem dX10_readPart_134 : decode cX10_readPart 134 = .ok (.ireturn, 1) := by decide +kernel
theorem dX10_readPart_135 : decode cX10_readPart 135 = .ok (.aload_n 0, 1) := by decide +kernel
theorem dX10_readPart_136 : decode cX10_readPart 136 = .ok (.iconst 1, 1) := by decide +kernel
theorem dX10_readPart_137 : decode cX10_readPart 137 = .ok (.putfield 167, 3) := by decide +kernel
theorem dX10_readPart_140 : decode cX10_readPart 140 = .ok (.iconst (-1), 1) := by decide +kernel
theorem dX10_readPart_141 : decode cX10_readPart 141 = .ok (.ireturn, 1) := by decide +kernel
theorem dX10_readPart_142 : decode cX10_readPart 142 = .ok (.aload_n 0, 1) := by decide +kernel
theorem dX10_readPart_143 : decode cX10_readPart 143 = .ok (.dup, 1) := by decide +kernel
theorem dX10_readPart_144 : decode cX10_readPart 144 = .ok (.getfield 154, 3) := by decide +kernel
theorem dX10_readPart_147 : decode cX10_readPart 147 = .ok (.iconst 1, 1) := by decide +kernel
theorem dX10_readPart_148 : decode cX10_readPart 148 = .ok (.iadd, 1) := by decide +kernel
theorem dX10_readPart_149 : decode cX10_readPart 149 = .ok (.putfield 154, 3) := by decide +kernel
theorem dX10_readPart_152 : decode cX10_readPart 152 = .ok (.aload_n 0, 1) := by decide +kernel
theorem dX10_readPart_153 : decode cX10_readPart 153 = .ok (.iload_n 2, 1) := by decide +kernel
theorem dX10_readPart_154 : decode cX10_readPart 154 = .ok (.invokevirtual 185, 3) := by decide +kernel
theorem dX10_readPart_157 : decode cX10_readPart 157 = .ok (.ireturn, 1) := by decide +kernel
set_option maxRecDepth 20000 in
set_option maxHeartbeats 4000000 in
theorem w_X10_readPart {c : rX} {d : Nat} {S : rS} {K : Option Value → rS → Prop} (ho : rOK c)  (h : rM c d eX10_peek (.ref c.2.2.1 :: []) S (fun v S1 => ∃ z2 : Int32, v = some (.int z2) ∧ ((z2 < 48 → (rG c eX10_readPart (d + 1) (rQ c K) 37 [some (.ref c.2.2.1), some (.int z2), none] [] S1)) ∧ (¬ z2 < 48 → ((57 < z2 → (rG c eX10_readPart (d + 1) (rQ c K) 37 [some (.ref c.2.2.1), some (.int z2), none] [] S1)) ∧ (¬ 57 < z2 → (rM c d eX10_create (.ref c.2.2.1 :: [.int 48, .int (z2 - 48), .int (S1.1 20 0)]) S1 (fun v S5 => ∃ z6 : Int32, v = some (.int z6) ∧ (rG c eX10_readPart (d + 1) (rQ c K) 142 [some (.ref c.2.2.1), none, some (.int z6)] [] S5))))))))) : rM c (d + 1) eX10_readPart [.ref c.2.2.1] S K := by
  refine rM.of (by decide) (Nat.le_of_ble_eq_true rfl) ?_
  show rG c eX10_readPart (d + 1) (rQ c K) 0 [some (.ref c.2.2.1), none, none] [] S
  refine ag_aload_n dX10_readPart_0 rfl (Or.inr ⟨_, rfl⟩) ?_
  refine rr_call (as := []) (rest := []) ho dX10_readPart_1 me_X10_peek mi_X10_peek lk_10_175 rfl rfl (Nat.le_of_ble_eq_true rfl) ?_
  refine rM.mono h ?_
  rintro v S1 ⟨z2, rfl, h⟩
  show rG _ _ _ _ _ _ [.int z2] _
  refine ag_istore_n (lv2 := [some (.ref c.2.2.1), some (.int z2), none]) dX10_readPart_4 (Nat.le_of_ble_eq_true rfl) rfl ?_
  refine ag_iconst (v := (-1)) dX10_readPart_5 rfl ?_
  refine ag_istore_n (lv2 := [some (.ref c.2.2.1), some (.int z2), some (.int (-1))]) dX10_readPart_6 (Nat.le_of_ble_eq_true rfl) rfl ?_
  refine ag_iload_n dX10_readPart_7 rfl ?_
  refine ag_bipush (v := 48) dX10_readPart_8 (by decide) ?_
  refine ag_icmp_lt (tgt := 37) dX10_readPart_10 rfl (fun hc3 => ?_) (fun hc3 => ?_)
  · have h := h.1 hc3
    refine ag_drop 2 ?_
    exact h
  · have h := h.2 hc3
    refine ag_iload_n dX10_readPart_13 rfl ?_
    refine ag_bipush (v := 57) dX10_readPart_14 (by decide) ?_
    refine ag_icmp_gt (tgt := 37) dX10_readPart_16 rfl (fun hc4 => ?_) (fun hc4 => ?_)
    · have h := h.1 hc4
      refine ag_drop 2 ?_
      exact h
    · have h := h.2 hc4
      refine ag_aload_n dX10_readPart_19 rfl (Or.inr ⟨_, rfl⟩) ?_
      refine ag_bipush (v := 48) dX10_readPart_20 (by decide) ?_
      refine ag_iload_n dX10_readPart_22 rfl ?_
      refine ag_bipush (v := 48) dX10_readPart_23 (by decide) ?_
      refine ag_isub dX10_readPart_25 rfl ?_
      refine ag_aload_n dX10_readPart_26 rfl (Or.inr ⟨_, rfl⟩) ?_
      refine rr_get (v := .int (S1.1 20 0)) ho dX10_readPart_27 fw_10_154 rfl ?_
      refine rr_call (as := [.int 48, .int (z2 - 48), .int (S1.1 20 0)]) (rest := []) ho dX10_readPart_30 me_X10_create mi_X10_create lk_10_178 rfl rfl (Nat.le_of_ble_eq_true rfl) ?_
      refine rM.mono h ?_
      rintro v S5 ⟨z6, rfl, h⟩
      show rG _ _ _ _ _ _ [.int z6] _
      refine ag_istore_n (lv2 := [some (.ref c.2.2.1), some (.int z2), some (.int z6)]) dX10_readPart_33 (Nat.le_of_ble_eq_true rfl) rfl ?_
      refine ag_goto (tgt := 142) dX10_readPart_34 rfl ?_
      refine ag_drop 1 ?_
      exact h
set_option maxRecDepth 20000 in
set_option maxHeartbeats 4000000 in
theorem w_X10_readPart_37 {c : rX} {d : Nat} {S : rS} {K : Option Value → rS → Prop} (ho : rOK c) (v1 : Int32) (h : (v1 = 35 → (rM c d eX10_create (.ref c.2.2.1 :: [.int v1, .int 0, .int (S.1 20 0)]) S (fun v S2 => ∃ z3 : Int32, v = some (.int z3) ∧ (rG c eX10_readPart (d + 1) (rQ c K) 142 [some (.ref c.2.2.1), none, some (.int z3)] [] S2)))) ∧ (¬ v1 = 35 → ((v1 = 126 → (rM c d eX10_create (.ref c.2.2.1 :: [.int v1, .int 0, .int (S.1 20 0)]) S (fun v S5 => ∃ z6 : Int32, v = some (.int z6) ∧ (rG c eX10_readPart (d + 1) (rQ c K) 142 [some (.ref c.2.2.1), none, some (.int z6)] [] S5)))) ∧ (¬ v1 = 126 → ((¬ v1 = 46 → ((v1 < 97 → (rG c eX10_readPart (d + 1) (rQ c K) 114 [some (.ref c.2.2.1), some (.int v1), none] [] S)) ∧ (¬ v1 < 97 → ((104 < v1 → (rG c eX10_readPart (d + 1) (rQ c K) 114 [some (.ref c.2.2.1), some (.int v1), none] [] S)) ∧ (¬ 104 < v1 → ((¬ (((S.1 22 0) >>> ((v1 - 97) &&& 31)) &&& 1) = 1 → (rG c eX10_readPart (d + 1) (rQ c K) 114 [some (.ref c.2.2.1), some (.int v1), none] [] S)) ∧ ((((S.1 22 0) >>> ((v1 - 97) &&& 31)) &&& 1) = 1 → (rM c d eX10_create (.ref c.2.2.1 :: [.int 97, .int (v1 - 97), .int (S.1 20 0)]) S (fun v S11 => ∃ z12 : Int32, v = some (.int z12) ∧ (rG c eX10_readPart (d + 1) (rQ c K) 142 [some (.ref c.2.2.1), none, some (.int z12)] [] S11)))))))))) ∧ (v1 = 46 → (rM c d eX10_create (.ref c.2.2.1 :: [.int v1, .int 0, .int (S.1 20 0)]) S (fun v S13 => ∃ z14 : Int32, v = some (.int z14) ∧ (rG c eX10_readPart (d + 1) (rQ c K) 142 [some (.ref c.2.2.1), none, some (.int z14)] [] S13))))))))) : rG c eX10_readPart (d + 1) (rQ c K) 37 [some (.ref c.2.2.1), some (.int v1), none] [] S := by
  refine ag_iload_n dX10_readPart_37 rfl ?_
  refine ag_bipush (v := 35) dX10_readPart_38 (by decide) ?_
  refine ag_icmp_eq (tgt := 55) dX10_readPart_40 rfl (fun hc1 => ?_) (fun hc1 => ?_)
  · have h := h.1 hc1
    refine ag_aload_n dX10_readPart_55 rfl (Or.inr ⟨_, rfl⟩) ?_
    refine ag_iload_n dX10_readPart_56 rfl ?_
    refine ag_iconst (v := 0) dX10_readPart_57 rfl ?_
    refine ag_aload_n dX10_readPart_58 rfl (Or.inr ⟨_, rfl⟩) ?_
    refine rr_get (v := .int (S.1 20 0)) ho dX10_readPart_59 fw_10_154 rfl ?_
    refine rr_call (as := [.int v1, .int 0, .int (S.1 20 0)]) (rest := []) ho dX10_readPart_62 me_X10_create mi_X10_create lk_10_178 rfl rfl (Nat.le_of_ble_eq_true rfl) ?_
    refine rM.mono h ?_
    rintro v S2 ⟨z3, rfl, h⟩
    show rG _ _ _ _ _ _ [.int z3] _
    refine ag_istore_n (lv2 := [some (.ref c.2.2.1), some (.int v1), some (.int z3)]) dX10_readPart_65 (Nat.le_of_ble_eq_true rfl) rfl ?_
    refine ag_goto (tgt := 142) dX10_readPart_66 rfl ?_
    refine ag_drop 1 ?_
    exact h
  · have h := h.2 hc1
    refine ag_iload_n dX10_readPart_43 rfl ?_
    refine ag_bipush (v := 126) dX10_readPart_44 (by decide) ?_
    refine ag_icmp_eq (tgt := 55) dX10_readPart_46 rfl (fun hc4 => ?_) (fun hc4 => ?_)
    · have h := h.1 hc4
      refine ag_aload_n dX10_readPart_55 rfl (Or.inr ⟨_, rfl⟩) ?_
      refine ag_iload_n dX10_readPart_56 rfl ?_
      refine ag_iconst (v := 0) dX10_readPart_57 rfl ?_
      refine ag_aload_n dX10_readPart_58 rfl (Or.inr ⟨_, rfl⟩) ?_
      refine rr_get (v := .int (S.1 20 0)) ho dX10_readPart_59 fw_10_154 rfl ?_
      refine rr_call (as := [.int v1, .int 0, .int (S.1 20 0)]) (rest := []) ho dX10_readPart_62 me_X10_create mi_X10_create lk_10_178 rfl rfl (Nat.le_of_ble_eq_true rfl) ?_
      refine rM.mono h ?_
      rintro v S5 ⟨z6, rfl, h⟩
      show rG _ _ _ _ _ _ [.int z6] _
      refine ag_istore_n (lv2 := [some (.ref c.2.2.1), some (.int v1), some (.int z6)]) dX10_readPart_65 (Nat.le_of_ble_eq_true rfl) rfl ?_
      refine ag_goto (tgt := 142) dX10_readPart_66 rfl ?_
      refine ag_drop 1 ?_
      exact h
    · have h := h.2 hc4
      refine ag_iload_n dX10_readPart_49 rfl ?_
      refine ag_bipush (v := 46) dX10_readPart_50 (by decide) ?_
      refine ag_icmp_ne (tgt := 69) dX10_readPart_52 rfl (fun hc7 => ?_) (fun hc7 => ?_)
      · have h := h.1 hc7
        refine ag_iload_n dX10_readPart_69 rfl ?_
        refine ag_bipush (v := 97) dX10_readPart_70 (by decide) ?_
        refine ag_icmp_lt (tgt := 114) dX10_readPart_72 rfl (fun hc8 => ?_) (fun hc8 => ?_)
        · have h := h.1 hc8
          exact h
        · have h := h.2 hc8
          refine ag_iload_n dX10_readPart_75 rfl ?_
          refine ag_bipush (v := 104) dX10_readPart_76 (by decide) ?_
          refine ag_icmp_gt (tgt := 114) dX10_readPart_78 rfl (fun hc9 => ?_) (fun hc9 => ?_)
          · have h := h.1 hc9
            exact h
          · have h := h.2 hc9
            refine ag_aload_n dX10_readPart_81 rfl (Or.inr ⟨_, rfl⟩) ?_
            refine rr_get (v := .int (S.1 22 0)) ho dX10_readPart_82 fw_10_161 rfl ?_
            refine ag_iload_n dX10_readPart_85 rfl ?_
            refine ag_bipush (v := 97) dX10_readPart_86 (by decide) ?_
            refine ag_isub dX10_readPart_88 rfl ?_
            refine ag_ishr dX10_readPart_89 rfl ?_
            refine ag_iconst (v := 1) dX10_readPart_90 rfl ?_
            refine ag_iand dX10_readPart_91 rfl ?_
            refine ag_iconst (v := 1) dX10_readPart_92 rfl ?_
            refine ag_icmp_ne (tgt := 114) dX10_readPart_93 rfl (fun hc10 => ?_) (fun hc10 => ?_)
            · have h := h.1 hc10
              exact h
            · have h := h.2 hc10
              refine ag_aload_n dX10_readPart_96 rfl (Or.inr ⟨_, rfl⟩) ?_
              refine ag_bipush (v := 97) dX10_readPart_97 (by decide) ?_
              refine ag_iload_n dX10_readPart_99 rfl ?_
              refine ag_bipush (v := 97) dX10_readPart_100 (by decide) ?_
              refine ag_isub dX10_readPart_102 rfl ?_
              refine ag_aload_n dX10_readPart_103 rfl (Or.inr ⟨_, rfl⟩) ?_
              refine rr_get (v := .int (S.1 20 0)) ho dX10_readPart_104 fw_10_154 rfl ?_
              refine rr_call (as := [.int 97, .int (v1 - 97), .int (S.1 20 0)]) (rest := []) ho dX10_readPart_107 me_X10_create mi_X10_create lk_10_178 rfl rfl (Nat.le_of_ble_eq_true rfl) ?_
              refine rM.mono h ?_
              rintro v S11 ⟨z12, rfl, h⟩
              show rG _ _ _ _ _ _ [.int z12] _
              refine ag_istore_n (lv2 := [some (.ref c.2.2.1), some (.int v1), some (.int z12)]) dX10_readPart_110 (Nat.le_of_ble_eq_true rfl) rfl ?_
              refine ag_goto (tgt := 142) dX10_readPart_111 rfl ?_
              refine ag_drop 1 ?_
              exact h
      · have h := h.2 hc7
        refine ag_aload_n dX10_readPart_55 rfl (Or.inr ⟨_, rfl⟩) ?_
        refine ag_iload_n dX10_readPart_56 rfl ?_
        refine ag_iconst (v := 0) dX10_readPart_57 rfl ?_
        refine ag_aload_n dX10_readPart_58 rfl (Or.inr ⟨_, rfl⟩) ?_
        refine rr_get (v := .int (S.1 20 0)) ho dX10_readPart_59 fw_10_154 rfl ?_
        refine rr_call (as := [.int v1, .int 0, .int (S.1 20 0)]) (rest := []) ho dX10_readPart_62 me_X10_create mi_X10_create lk_10_178 rfl rfl (Nat.le_of_ble_eq_true rfl) ?_
        refine rM.mono h ?_
        rintro v S13 ⟨z14, rfl, h⟩
        show rG _ _ _ _ _ _ [.int z14] _
        refine ag_istore_n (lv2 := [some (.ref c.2.2.1), some (.int v1), some (.int z14)]) dX10_readPart_65 (Nat.le_of_ble_eq_true rfl) rfl ?_
        refine ag_goto (tgt := 142) dX10_readPart_66 rfl ?_
        refine ag_drop 1 ?_
        exact h
set_option maxRecDepth 20000 in
set_option maxHeartbeats 4000000 in
theorem w_X10_readPart_114 {c : rX} {d : Nat} {S : rS} {K : Option Value → rS → Prop} (ho : rOK c) (v1 : Int32) (h : (¬ v1 = 40 → (K (some (.int (-1))) (rsi S 23 0 1))) ∧ (v1 = 40 → ((6 ≤ (S.1 21 0) → (K (some (.int (-1))) (rsi S 23 0 1))) ∧ (¬ 6 ≤ (S.1 21 0) → (rM c d eX10_readBracket (.ref c.2.2.1 :: []) S (fun v S3 => v = none ∧ (K (some (.int (-1))) S3))))))) : rG c eX10_readPart (d + 1) (rQ c K) 114 [some (.ref c.2.2.1), some (.int v1), none] [] S := by
  refine ag_iload_n dX10_readPart_114 rfl ?_
  refine ag_bipush (v := 40) dX10_readPart_115 (by decide) ?_
  refine ag_icmp_ne (tgt := 135) dX10_readPart_117 rfl (fun hc1 => ?_) (fun hc1 => ?_)
  · have h := h.1 hc1
    refine ag_aload_n dX10_readPart_135 rfl (Or.inr ⟨_, rfl⟩) ?_
    refine ag_iconst (v := 1) dX10_readPart_136 rfl ?_
    refine rr_put (S2 := (rsi S 23 0 1)) ho dX10_readPart_137 pw_10_167 rfl (rB_ok (Or.inr rfl)) rfl ?_
    refine ag_iconst (v := (-1)) dX10_readPart_140 rfl ?_
    exact ag_ret (v := some (.int (-1))) dX10_readPart_141 ⟨_, rfl, rfl⟩ ⟨_, rfl, _, rfl, h⟩ rfl
  · have h := h.2 hc1
    refine ag_aload_n dX10_readPart_120 rfl (Or.inr ⟨_, rfl⟩) ?_
    refine rr_get (v := .int (S.1 21 0)) ho dX10_readPart_121 fw_10_164 rfl ?_
    refine ag_bipush (v := 6) dX10_readPart_124 (by decide) ?_
    refine ag_icmp_ge (tgt := 135) dX10_readPart_126 rfl (fun hc2 => ?_) (fun hc2 => ?_)
    · have h := h.1 hc2
      refine ag_aload_n dX10_readPart_135 rfl (Or.inr ⟨_, rfl⟩) ?_
      refine ag_iconst (v := 1) dX10_readPart_136 rfl ?_
      refine rr_put (S2 := (rsi S 23 0 1)) ho dX10_readPart_137 pw_10_167 rfl (rB_ok (Or.inr rfl)) rfl ?_
      refine ag_iconst (v := (-1)) dX10_readPart_140 rfl ?_
      exact ag_ret (v := some (.int (-1))) dX10_readPart_141 ⟨_, rfl, rfl⟩ ⟨_, rfl, _, rfl, h⟩ rfl
    · have h := h.2 hc2
      refine ag_aload_n dX10_readPart_129 rfl (Or.inr ⟨_, rfl⟩) ?_
      refine rr_call (as := []) (rest := []) ho dX10_readPart_130 me_X10_readBracket mi_X10_readBracket lk_10_182 rfl rfl (Nat.le_of_ble_eq_true rfl) ?_
      refine rM.mono h ?_
      rintro v S3 ⟨rfl, h⟩
      show rG _ _ _ _ _ _ [] _
      refine ag_iconst (v := (-1)) dX10_readPart_133 rfl ?_
      exact ag_ret (v := some (.int (-1))) dX10_readPart_134 ⟨_, rfl, rfl⟩ ⟨_, rfl, _, rfl, h⟩ rfl
set_option maxRecDepth 20000 in
set_option maxHeartbeats 4000000 in
theorem w_X10_readPart_142 {c : rX} {d : Nat} {S : rS} {K : Option Value → rS → Prop} (ho : rOK c) (v2 : Int32) (h : rM c d eX10_close (.ref c.2.2.1 :: [.int v2]) (rsi S 20 0 ((S.1 20 0) + 1)) (fun v S1 => ∃ z2 : Int32, v = some (.int z2) ∧ (K (some (.int z2)) S1))) : rG c eX10_readPart (d + 1) (rQ c K) 142 [some (.ref c.2.2.1), none, some (.int v2)] [] S := by
  refine ag_aload_n dX10_readPart_142 rfl (Or.inr ⟨_, rfl⟩) ?_
  refine ag_dup dX10_readPart_143 rfl ?_
  refine rr_get (v := .int (S.1 20 0)) ho dX10_readPart_144 fw_10_154 rfl ?_
  refine ag_iconst (v := 1) dX10_readPart_147 rfl ?_
  refine ag_iadd dX10_readPart_148 rfl ?_
  refine rr_put (S2 := (rsi S 20 0 ((S.1 20 0) + 1))) ho dX10_readPart_149 pw_10_154 rfl (fun _ => ⟨rfl, rfl⟩) rfl ?_
  refine ag_aload_n dX10_readPart_152 rfl (Or.inr ⟨_, rfl⟩) ?_
  refine ag_iload_n dX10_readPart_153 rfl ?_
  refine rr_call (as := [.int v2]) (rest := []) ho dX10_readPart_154 me_X10_close mi_X10_close lk_10_185 rfl rfl (Nat.le_of_ble_eq_true rfl) ?_
  refine rM.mono h ?_
  rintro v S1 ⟨z2, rfl, h⟩
  show rG _ _ _ _ _ _ [.int z2] _
  exact ag_ret (v := some (.int z2)) dX10_readPart_157 ⟨_, rfl, rfl⟩ ⟨_, rfl, _, rfl, h⟩ rfl
theorem dX10_readBracket_0 : decode cX10_readBracket 0 = .ok (.aload_n 0, 1) := by decide +kernel
theorem dX10_readBracket_1 : decode cX10_readBracket 1 = .ok (.getfield 154, 3) := by decide +kernel
theorem dX10_readBracket_4 : decode cX10_readBracket 4 = .ok (.istore_n 1, 1) := by decide +kernel
theorem dX10_readBracket_5 : decode cX10_readBracket 5 = .ok (.aload_n 0, 1) := by decide +kernel
theorem dX10_readBracket_6 : decode cX10_readBracket 6 = .ok (.dup, 1) := by decide +kernel
theorem dX10_readBracket_7 : decode cX10_readBracket 7 = .ok (.getfield 154, 3) := by decide +kernel
theorem dX10_readBracket_10 : decode cX10_readBracket 10 = .ok (.iconst 1, 1) := by decide +kernel
theorem dX10_readBracket_11 : decode cX10_readBracket 11 = .ok (.iadd, 1) := by decide +kernel
theorem dX10_readBracket_12 : decode cX10_readBracket 12 = .ok (.putfield 154, 3) := by decide +kernel
theorem dX10_readBracket_15 : decode cX10_readBracket 15 = .ok (.aload_n 0, 1) := by decide +kernel
theorem dX10_readBracket_16 : decode cX10_readBracket 16 = .ok (.invokevirtual 175, 3) := by decide +kernel
theorem dX10_readBracket_19 : decode cX10_readBracket 19 = .ok (.istore_n 2, 1) := by decide +kernel
theorem dX10_readBracket_20 : decode cX10_readBracket 20 = .ok (.aload_n 0, 1) := by decide +kernel
theorem dX10_readBracket_21 : decode cX10_readBracket 21 = .ok (.iload_n 2, 1) := by decide +kernel
theorem dX10_readBracket_22 : decode cX10_readBracket 22 = .ok (.invokevirtual 189, 3) := by decide +kernel
theorem dX10_readBracket_25 : decode cX10_readBracket 25 = .ok (.iconst (-1), 1) := by decide +kernel
theorem dX10_readBracket_26 : decode cX10_readBracket 26 = .ok (.if_icmp .eq 23, 3) := by decide +kernel
theorem dX10_readBracket_29 : decode cX10_readBracket 29 = .ok (.iload_n 2, 1) := by decide +kernel
theorem dX10_readBracket_30 : decode cX10_readBracket 30 = .ok (.bipush 58, 2) := by decide +kernel
theorem dX10_readBracket_32 : decode cX10_readBracket 32 = .ok (.if_icmp .ne 23, 3) := by decide +kernel
theorem dX10_readBracket_35 : decode cX10_readBracket 35 = .ok (.aload_n 0, 1) := by decide +kernel
theorem dX10_readBracket_36 : decode cX10_readBracket 36 = .ok (.getfield 161, 3) := by decide +kernel
theorem dX10_readBracket_39 : decode cX10_readBracket 39 = .ok (.iconst 2, 1) := by decide +kernel
theorem dX10_readBracket_40 : decode cX10_readBracket 40 = .ok (.ishr, 1) := by decide +kernel
theorem dX10_readBracket_41 : decode cX10_readBracket 41 = .ok (.bipush 63, 2) := by decide +kernel
theorem dX10_readBracket_43 : decode cX10_readBracket 43 = .ok (.iand, 1) := by decide +kernel
theorem dX10_readBracket_44 : decode cX10_readBracket 44 = .ok (.bipush 63, 2) := by decide +kernel
theorem dX10_readBracket_46 : decode cX10_readBracket 46 = .ok (.if_icmp .ne 9, 3) := by decide +kernel
theorem dX10_readBracket_49 : decode cX10_readBracket 49 = .ok (.aload_n 0, 1) := by decide +kernel
theorem dX10_readBracket_50 : decode cX10_readBracket 50 = .ok (.iconst 1, 1) := by decide +kernel
theorem dX10_readBracket_51 : decode cX10_readBracket 51 = .ok (.putfield 167, 3) := by decide +kernel
theorem dX10_readBracket_54 : decode cX10_readBracket 54 = .ok (.return_, 1) := by decide +kernel
theorem dX10_readBracket_55 : decode cX10_readBracket 55 = .ok (.aload_n 0, 1) := by decide +kernel
theorem dX10_readBracket_56 : decode cX10_readBracket 56 = .ok (.dup, 1) := by decide +kernel
theorem dX10_readBracket_57 : decode cX10_readBracket 57 = .ok (.getfield 154, 3) := by decide +kernel
theorem dX10_readBracket_60 : decode cX10_readBracket 60 = .ok (.iconst 1, 1) := by decide +kernel
theorem dX10_readBracket_61 : decode cX10_readBracket 61 = .ok (.iadd, 1) := by decide +kernel
theorem dX10_readBracket_62 : decode cX10_readBracket 62 = .ok (.putfield 154, 3) := by decide +kernel
theorem dX10_readBracket_65 : decode cX10_readBracket 65 = .ok (.iconst 0, 1) := by decide +kernel
theorem dX10_readBracket_66 : decode cX10_readBracket 66 = .ok (.istore_n 3, 1) := by decide +kernel
theorem dX10_readBracket_67 : decode cX10_readBracket 67 = .ok (.iload_n 2, 1) := by decide +kernel
theorem dX10_readBracket_68 : decode cX10_readBracket 68 = .ok (.bipush 58, 2) := by decide +kernel
theorem dX10_readBracket_70 : decode cX10_readBracket 70 = .ok (.if_icmp .ne 55, 3) := by decide +kernel
theorem dX10_readBracket_73 : decode cX10_readBracket 73 = .ok (.aload_n 0, 1) := by decide +kernel
theorem dX10_readBracket_74 : decode cX10_readBracket 74 = .ok (.invokevirtual 175, 3) := by decide +kernel
theorem dX10_readBracket_77 : decode cX10_readBracket 77 = .ok (.istore 4, 2) := by decide +kernel
theorem dX10_readBracket_79 : decode cX10_readBracket 79 = .ok (.iload 4, 2) := by decide +kernel
theorem dX10_readBracket_81 : decode cX10_readBracket 81 = .ok (.invokestatic 192, 3) := by decide +kernel
theorem dX10_readBracket_84 : decode cX10_readBracket 84 = .ok (.ifCond .eq 19, 3) := by decide +kernel
theorem dX10_readBracket_87 : decode cX10_readBracket 87 = .ok (.aload_n 0, 1) := by decide +kernel
theorem dX10_readBracket_88 : decode cX10_readBracket 88 = .ok (.getfield 161, 3) := by decide +kernel
theorem dX10_readBracket_91 : decode cX10_readBracket 91 = .ok (.iload 4, 2) := by decide +kernel
theorem dX10_readBracket_93 : decode cX10_readBracket 93 = .ok (.bipush 97, 2) := by decide +kernel
theorem dX10_readBracket_95 : decode cX10_readBracket 95 = .ok (.isub, 1) := by decide +kernel
theorem dX10_readBracket_96 : decode cX10_readBracket 96 = .ok (.ishr, 1) := by decide +kernel
theorem dX10_readBracket_97 : decode cX10_readBracket 97 = .ok (.iconst 1, 1) := by decide +kernel
theorem dX10_readBracket_98 : decode cX10_readBracket 98 = .ok (.iand, 1) := by decide +kernel
theorem dX10_readBracket_99 : decode cX10_readBracket 99 = .ok (.iconst 1, 1) := by decide +kernel
theorem dX10_readBracket_100 : decode cX10_readBracket 100 = .ok (.if_icmp .ne 9, 3) := by decide +kernel
theorem dX10_readBracket_103 : decode cX10_readBracket 103 = .ok (.aload_n 0, 1) := by decide +kernel
theorem dX10_readBracket_104 : decode cX10_readBracket 104 = .ok (.iconst 1, 1) := by decide +kernel
theorem dX10_readBracket_105 : decode cX10_readBracket 105 = .ok (.putfield 167, 3) := by decide +kernel
theorem dX10_readBracket_108 : decode cX10_readBracket 108 = .ok (.return_, 1) := by decide +kernel
theorem dX10_readBracket_109 : decode cX10_readBracket 109 = .ok (.iload 4, 2) := by decide +kernel
theorem dX10_readBracket_111 : decode cX10_readBracket 111 = .ok (.bipush 97, 2) := by decide +kernel
theorem dX10_readBracket_113 : decode cX10_readBracket 113 = .ok (.isub, 1) := by decide +kernel
theorem dX10_readBracket_114 : decode cX10_readBracket 114 = .ok (.istore_n 3, 1) := by decide +kernel
theorem dX10_readBracket_115 : decode cX10_readBracket 115 = .ok (.aload_n 0, 1) := by decide +kernel
theorem dX10_readBracket_116 : decode cX10_readBracket 116 = .ok (.dup, 1) := by decide +kernel
theorem dX10_readBracket_117 : decode cX10_readBracket 117 = .ok (.getfield 154, 3) := by decide +kernel
theorem dX10_readBracket_120 : decode cX10_readBracket 120 = .ok (.iconst 1, 1) := by decide +kernel
theorem dX10_readBracket_121 : decode cX10_readBracket 121 = .ok (.iadd, 1) := by decide +kernel
theorem dX10_readBracket_122 : decode cX10_readBracket 122 = .ok (.putfield 154, 3) := by decide +kernel
theorem dX10_readBracket_125 : decode cX10_readBracket 125 = .ok (.aload_n 0, 1) := by decide +kernel
theorem dX10_readBracket_126 : decode cX10_readBracket 126 = .ok (.getfield 60, 3) := by decide +kernel
theorem dX10_readBracket_129 : decode cX10_readBracket 129 = .ok (.aload_n 0, 1) := by decide +kernel
theorem dX10_readBracket_130 : decode cX10_readBracket 130 = .ok (.getfield 164, 3) := by decide +kernel
theorem dX10_readBracket_133 : decode cX10_readBracket 133 = .ok (.aload_n 0, 1) := by decide +kernel
theorem dX10_readBracket_134 : decode cX10_readBracket 134 = .ok (.iload_n 2, 1) := by decide +kernel
theorem dX10_readBracket_135 : decode cX10_readBracket 135 = .ok (.iload_n 3, 1) := by decide +kernel
theorem dX10_readBracket_136 : decode cX10_readBracket 136 = .ok (.iload_n 1, 1) := by decide +kernel
theorem dX10_readBracket_137 : decode cX10_readBracket 137 = .ok (.invokevirtual 178, 3) := by decide +kernel
theorem dX10_readBracket_140 : decode cX10_readBracket 140 = .ok (.iastore, 1) := by decide +kernel
theorem dX10_readBracket_141 : decode cX10_readBracket 141 = .ok (.aload_n 0, 1) := by decide +kernel
theorem dX10_readBracket_142 : decode cX10_readBracket 142 = .ok (.dup, 1) := by decide +kernel
theorem dX10_readBracket_143 : decode cX10_readBracket 143 = .ok (.getfield 164, 3) := by decide +kernel
theorem dX10_readBracket_146 : decode cX10_readBracket 146 = .ok (.iconst 1, 1) := by decide +kernel
theorem dX10_readBracket_147 : decode cX10_readBracket 147 = .ok (.iadd, 1) := by decide +kernel
theorem dX10_readBracket_148 : decode cX10_readBracket 148 = .ok (.putfield 164, 3) := by decide +kernel
theorem dX10_readBracket_151 : decode cX10_readBracket 151 = .ok (.return_, 1) := by decide +kernel
set_option maxRecDepth 20000 in
set_option maxHeartbeats 4000000 in
theorem w_X10_readBracket {c : rX} {d : Nat} {S : rS} {K : Option Value → rS → Prop} (ho : rOK c)  (h : rM c d eX10_peek (.ref c.2.2.1 :: []) (rsi S 20 0 ((S.1 20 0) + 1)) (fun v S1 => ∃ z2 : Int32, v = some (.int z2) ∧ (rM c d eX10_partsOf (.ref c.2.2.1 :: [.int z2]) S1 (fun v S3 => ∃ z4 : Int32, v = some (.int z4) ∧ ((z4 = (-1) → (K none (rsi S3 23 0 1))) ∧ (¬ z4 = (-1) → ((¬ z2 = 58 → (rG c eX10_readBracket (d + 1) (rQ c K) 55 [some (.ref c.2.2.1), some (.int (S.1 20 0)), some (.int z2), none, none] [] S3)) ∧ (z2 = 58 → ((¬ (((S3.1 22 0) >>> (2 &&& 31)) &&& 63) = 63 → (rG c eX10_readBracket (d + 1) (rQ c K) 55 [some (.ref c.2.2.1), some (.int (S.1 20 0)), some (.int z2), none, none] [] S3)) ∧ ((((S3.1 22 0) >>> (2 &&& 31)) &&& 63) = 63 → (K none (rsi S3 23 0 1)))))))))))) : rM c (d + 1) eX10_readBracket [.ref c.2.2.1] S K := by
  refine rM.of (by decide) (Nat.le_of_ble_eq_true rfl) ?_
  show rG c eX10_readBracket (d + 1) (rQ c K) 0 [some (.ref c.2.2.1), none, none, none, none] [] S
  refine ag_aload_n dX10_readBracket_0 rfl (Or.inr ⟨_, rfl⟩) ?_
  refine rr_get (v := .int (S.1 20 0)) ho dX10_readBracket_1 fw_10_154 rfl ?_
  refine ag_istore_n (lv2 := [some (.ref c.2.2.1), some (.int (S.1 20 0)), none, none, none]) dX10_readBracket_4 (Nat.le_of_ble_eq_true rfl) rfl ?_
  refine ag_aload_n dX10_readBracket_5 rfl (Or.inr ⟨_, rfl⟩) ?_
  refine ag_dup dX10_readBracket_6 rfl ?_
  refine rr_get (v := .int (S.1 20 0)) ho dX10_readBracket_7 fw_10_154 rfl ?_
  refine ag_iconst (v := 1) dX10_readBracket_10 rfl ?_
  refine ag_iadd dX10_readBracket_11 rfl ?_
  refine rr_put (S2 := (rsi S 20 0 ((S.1 20 0) + 1))) ho dX10_readBracket_12 pw_10_154 rfl (fun _ => ⟨rfl, rfl⟩) rfl ?_
  refine ag_aload_n dX10_readBracket_15 rfl (Or.inr ⟨_, rfl⟩) ?_
  refine rr_call (as := []) (rest := []) ho dX10_readBracket_16 me_X10_peek mi_X10_peek lk_10_175 rfl rfl (Nat.le_of_ble_eq_true rfl) ?_
  refine rM.mono h ?_
  rintro v S1 ⟨z2, rfl, h⟩
  show rG _ _ _ _ _ _ [.int z2] _
  refine ag_istore_n (lv2 := [some (.ref c.2.2.1), some (.int (S.1 20 0)), some (.int z2), none, none]) dX10_readBracket_19 (Nat.le_of_ble_eq_true rfl) rfl ?_
  refine ag_aload_n dX10_readBracket_20 rfl (Or.inr ⟨_, rfl⟩) ?_
  refine ag_iload_n dX10_readBracket_21 rfl ?_
  refine rr_call (as := [.int z2]) (rest := []) ho dX10_readBracket_22 me_X10_partsOf mi_X10_partsOf lk_10_189 rfl rfl (Nat.le_of_ble_eq_true rfl) ?_
  refine rM.mono h ?_
  rintro v S3 ⟨z4, rfl, h⟩
  show rG _ _ _ _ _ _ [.int z4] _
  refine ag_iconst (v := (-1)) dX10_readBracket_25 rfl ?_
  refine ag_icmp_eq (tgt := 49) dX10_readBracket_26 rfl (fun hc5 => ?_) (fun hc5 => ?_)
  · have h := h.1 hc5
    refine ag_aload_n dX10_readBracket_49 rfl (Or.inr ⟨_, rfl⟩) ?_
    refine ag_iconst (v := 1) dX10_readBracket_50 rfl ?_
    refine rr_put (S2 := (rsi S3 23 0 1)) ho dX10_readBracket_51 pw_10_167 rfl (rB_ok (Or.inr rfl)) rfl ?_
    exact ag_ret (v := none) dX10_readBracket_54 rfl ⟨_, rfl, _, rfl, h⟩ rfl
  · have h := h.2 hc5
    refine ag_iload_n dX10_readBracket_29 rfl ?_
    refine ag_bipush (v := 58) dX10_readBracket_30 (by decide) ?_
    refine ag_icmp_ne (tgt := 55) dX10_readBracket_32 rfl (fun hc6 => ?_) (fun hc6 => ?_)
    · have h := h.1 hc6
      exact h
    · have h := h.2 hc6
      refine ag_aload_n dX10_readBracket_35 rfl (Or.inr ⟨_, rfl⟩) ?_
      refine rr_get (v := .int (S3.1 22 0)) ho dX10_readBracket_36 fw_10_161 rfl ?_
      refine ag_iconst (v := 2) dX10_readBracket_39 rfl ?_
      refine ag_ishr dX10_readBracket_40 rfl ?_
      refine ag_bipush (v := 63) dX10_readBracket_41 (by decide) ?_
      refine ag_iand dX10_readBracket_43 rfl ?_
      refine ag_bipush (v := 63) dX10_readBracket_44 (by decide) ?_
      refine ag_icmp_ne (tgt := 55) dX10_readBracket_46 rfl (fun hc7 => ?_) (fun hc7 => ?_)
      · have h := h.1 hc7
        exact h
      · have h := h.2 hc7
        refine ag_aload_n dX10_readBracket_49 rfl (Or.inr ⟨_, rfl⟩) ?_
        refine ag_iconst (v := 1) dX10_readBracket_50 rfl ?_
        refine rr_put (S2 := (rsi S3 23 0 1)) ho dX10_readBracket_51 pw_10_167 rfl (rB_ok (Or.inr rfl)) rfl ?_
        exact ag_ret (v := none) dX10_readBracket_54 rfl ⟨_, rfl, _, rfl, h⟩ rfl
set_option maxRecDepth 20000 in
set_option maxHeartbeats 4000000 in
theorem w_X10_readBracket_55 {c : rX} {d : Nat} {S : rS} {K : Option Value → rS → Prop} (ho : rOK c) (v1 : Int32) (v2 : Int32) (h : (¬ v2 = 58 → (rG c eX10_readBracket (d + 1) (rQ c K) 125 [some (.ref c.2.2.1), some (.int v1), some (.int v2), some (.int 0), none] [] (rsi S 20 0 ((S.1 20 0) + 1)))) ∧ (v2 = 58 → (rM c d eX10_peek (.ref c.2.2.1 :: []) (rsi S 20 0 ((S.1 20 0) + 1)) (fun v S2 => ∃ z3 : Int32, v = some (.int z3) ∧ (rM c d eX10_isLocal [.int z3] S2 (fun v S4 => ∃ z5 : Int32, v = some (.int z5) ∧ ((z5 = 0 → (K none (rsi S4 23 0 1))) ∧ (¬ z5 = 0 → ((¬ (((S4.1 22 0) >>> ((z3 - 97) &&& 31)) &&& 1) = 1 → (rG c eX10_readBracket (d + 1) (rQ c K) 125 [some (.ref c.2.2.1), some (.int v1), some (.int v2), some (.int (z3 - 97)), none] [] (rsi S4 20 0 ((S4.1 20 0) + 1)))) ∧ ((((S4.1 22 0) >>> ((z3 - 97) &&& 31)) &&& 1) = 1 → (K none (rsi S4 23 0 1)))))))))))) : rG c eX10_readBracket (d + 1) (rQ c K) 55 [some (.ref c.2.2.1), some (.int v1), some (.int v2), none, none] [] S := by
  refine ag_aload_n dX10_readBracket_55 rfl (Or.inr ⟨_, rfl⟩) ?_
  refine ag_dup dX10_readBracket_56 rfl ?_
  refine rr_get (v := .int (S.1 20 0)) ho dX10_readBracket_57 fw_10_154 rfl ?_
  refine ag_iconst (v := 1) dX10_readBracket_60 rfl ?_
  refine ag_iadd dX10_readBracket_61 rfl ?_
  refine rr_put (S2 := (rsi S 20 0 ((S.1 20 0) + 1))) ho dX10_readBracket_62 pw_10_154 rfl (fun _ => ⟨rfl, rfl⟩) rfl ?_
  refine ag_iconst (v := 0) dX10_readBracket_65 rfl ?_
  refine ag_istore_n (lv2 := [some (.ref c.2.2.1), some (.int v1), some (.int v2), some (.int 0), none]) dX10_readBracket_66 (Nat.le_of_ble_eq_true rfl) rfl ?_
  refine ag_iload_n dX10_readBracket_67 rfl ?_
  refine ag_bipush (v := 58) dX10_readBracket_68 (by decide) ?_
  refine ag_icmp_ne (tgt := 125) dX10_readBracket_70 rfl (fun hc1 => ?_) (fun hc1 => ?_)
  · have h := h.1 hc1
    exact h
  · have h := h.2 hc1
    refine ag_aload_n dX10_readBracket_73 rfl (Or.inr ⟨_, rfl⟩) ?_
    refine rr_call (as := []) (rest := []) ho dX10_readBracket_74 me_X10_peek mi_X10_peek lk_10_175 rfl rfl (Nat.le_of_ble_eq_true rfl) ?_
    refine rM.mono h ?_
    rintro v S2 ⟨z3, rfl, h⟩
    show rG _ _ _ _ _ _ [.int z3] _
    refine ag_istore (lv2 := [some (.ref c.2.2.1), some (.int v1), some (.int v2), some (.int 0), some (.int z3)]) dX10_readBracket_77 (Nat.le_of_ble_eq_true rfl) rfl ?_
    refine ag_iload dX10_readBracket_79 rfl ?_
    refine rr_calls (as := [.int z3]) (rest := []) dX10_readBracket_81 me_X10_isLocal ms_X10_isLocal lk_10_192 rfl rfl (Nat.le_of_ble_eq_true rfl) ?_
    refine rM.mono h ?_
    rintro v S4 ⟨z5, rfl, h⟩
    show rG _ _ _ _ _ _ [.int z5] _
    refine ag_if_eq (tgt := 103) dX10_readBracket_84 rfl (fun hc6 => ?_) (fun hc6 => ?_)
    · have h := h.1 hc6
      refine ag_aload_n dX10_readBracket_103 rfl (Or.inr ⟨_, rfl⟩) ?_
      refine ag_iconst (v := 1) dX10_readBracket_104 rfl ?_
      refine rr_put (S2 := (rsi S4 23 0 1)) ho dX10_readBracket_105 pw_10_167 rfl (rB_ok (Or.inr rfl)) rfl ?_
      exact ag_ret (v := none) dX10_readBracket_108 rfl ⟨_, rfl, _, rfl, h⟩ rfl
    · have h := h.2 hc6
      refine ag_aload_n dX10_readBracket_87 rfl (Or.inr ⟨_, rfl⟩) ?_
      refine rr_get (v := .int (S4.1 22 0)) ho dX10_readBracket_88 fw_10_161 rfl ?_
      refine ag_iload dX10_readBracket_91 rfl ?_
      refine ag_bipush (v := 97) dX10_readBracket_93 (by decide) ?_
      refine ag_isub dX10_readBracket_95 rfl ?_
      refine ag_ishr dX10_readBracket_96 rfl ?_
      refine ag_iconst (v := 1) dX10_readBracket_97 rfl ?_
      refine ag_iand dX10_readBracket_98 rfl ?_
      refine ag_iconst (v := 1) dX10_readBracket_99 rfl ?_
      refine ag_icmp_ne (tgt := 109) dX10_readBracket_100 rfl (fun hc7 => ?_) (fun hc7 => ?_)
      · have h := h.1 hc7
        refine ag_iload dX10_readBracket_109 rfl ?_
        refine ag_bipush (v := 97) dX10_readBracket_111 (by decide) ?_
        refine ag_isub dX10_readBracket_113 rfl ?_
        refine ag_istore_n (lv2 := [some (.ref c.2.2.1), some (.int v1), some (.int v2), some (.int (z3 - 97)), some (.int z3)]) dX10_readBracket_114 (Nat.le_of_ble_eq_true rfl) rfl ?_
        refine ag_aload_n dX10_readBracket_115 rfl (Or.inr ⟨_, rfl⟩) ?_
        refine ag_dup dX10_readBracket_116 rfl ?_
        refine rr_get (v := .int (S4.1 20 0)) ho dX10_readBracket_117 fw_10_154 rfl ?_
        refine ag_iconst (v := 1) dX10_readBracket_120 rfl ?_
        refine ag_iadd dX10_readBracket_121 rfl ?_
        refine rr_put (S2 := (rsi S4 20 0 ((S4.1 20 0) + 1))) ho dX10_readBracket_122 pw_10_154 rfl (fun _ => ⟨rfl, rfl⟩) rfl ?_
        refine ag_drop 4 ?_
        exact h
      · have h := h.2 hc7
        refine ag_aload_n dX10_readBracket_103 rfl (Or.inr ⟨_, rfl⟩) ?_
        refine ag_iconst (v := 1) dX10_readBracket_104 rfl ?_
        refine rr_put (S2 := (rsi S4 23 0 1)) ho dX10_readBracket_105 pw_10_167 rfl (rB_ok (Or.inr rfl)) rfl ?_
        exact ag_ret (v := none) dX10_readBracket_108 rfl ⟨_, rfl, _, rfl, h⟩ rfl
set_option maxRecDepth 20000 in
set_option maxHeartbeats 4000000 in
theorem w_X10_readBracket_125 {c : rX} {d : Nat} {S : rS} {K : Option Value → rS → Prop} (ho : rOK c) (v1 : Int32) (v2 : Int32) (v3 : Int32) (h : rM c d eX10_create (.ref c.2.2.1 :: [.int v2, .int v3, .int v1]) S (fun v S1 => ∃ z2 : Int32, v = some (.int z2) ∧ (∃ j3 : Nat, am_ix (S.1 21 0) j3 8 ∧ (K none (rsi (rsi S1 24 j3 z2) 21 0 ((S1.1 21 0) + 1)))))) : rG c eX10_readBracket (d + 1) (rQ c K) 125 [some (.ref c.2.2.1), some (.int v1), some (.int v2), some (.int v3), none] [] S := by
  refine ag_aload_n dX10_readBracket_125 rfl (Or.inr ⟨_, rfl⟩) ?_
  refine rr_get (v := .ref (c.2.2.1 + (15 + 1))) ho dX10_readBracket_126 fw_10_60 rfl ?_
  refine ag_aload_n dX10_readBracket_129 rfl (Or.inr ⟨_, rfl⟩) ?_
  refine rr_get (v := .int (S.1 21 0)) ho dX10_readBracket_130 fw_10_164 rfl ?_
  refine ag_aload_n dX10_readBracket_133 rfl (Or.inr ⟨_, rfl⟩) ?_
  refine ag_iload_n dX10_readBracket_134 rfl ?_
  refine ag_iload_n dX10_readBracket_135 rfl ?_
  refine ag_iload_n dX10_readBracket_136 rfl ?_
  refine rr_call (as := [.int v2, .int v3, .int v1]) (rest := [.int (S.1 21 0), .ref (c.2.2.1 + (15 + 1))]) ho dX10_readBracket_137 me_X10_create mi_X10_create lk_10_178 rfl rfl (Nat.le_of_ble_eq_true rfl) ?_
  refine rM.mono h ?_
  rintro v S1 ⟨z2, rfl, h⟩
  show rG _ _ _ _ _ _ [.int z2, .int (S.1 21 0), .ref (c.2.2.1 + (15 + 1))] _
  obtain ⟨j3, hj4, h⟩ := h
  refine rr_is (S2 := (rsi S1 24 j3 z2)) ho dX10_readBracket_140 (k := 15) (f := 24) rfl hj4 rfl ?_
  refine ag_aload_n dX10_readBracket_141 rfl (Or.inr ⟨_, rfl⟩) ?_
  refine ag_dup dX10_readBracket_142 rfl ?_
  refine rr_get (v := .int (S1.1 21 0)) ho dX10_readBracket_143 fw_10_164 rfl ?_
  refine ag_iconst (v := 1) dX10_readBracket_146 rfl ?_
  refine ag_iadd dX10_readBracket_147 rfl ?_
  refine rr_put (S2 := (rsi (rsi S1 24 j3 z2) 21 0 ((S1.1 21 0) + 1))) ho dX10_readBracket_148 pw_10_164 rfl (fun _ => ⟨rfl, rfl⟩) rfl ?_
  exact ag_ret (v := none) dX10_readBracket_151 rfl ⟨_, rfl, _, rfl, h⟩ rfl
theorem dX10_close_0 : decode cX10_close 0 = .ok (.iload_n 1, 1) := by decide +kernel
theorem dX10_close_1 : decode cX10_close 1 = .ok (.istore_n 2, 1) := by decide +kernel
theorem dX10_close_2 : decode cX10_close 2 = .ok (.aload_n 0, 1) := by decide +kernel
theorem dX10_close_3 : decode cX10_close 3 = .ok (.getfield 164, 3) := by decide +kernel
theorem dX10_close_6 : decode cX10_close 6 = .ok (.ifCond .le 130, 3) := by decide +kernel
theorem dX10_close_9 : decode cX10_close 9 = .ok (.aload_n 0, 1) := by decide +kernel
theorem dX10_close_10 : decode cX10_close 10 = .ok (.getfield 167, 3) := by decide +kernel
theorem dX10_close_13 : decode cX10_close 13 = .ok (.ifCond .ne 123, 3) := by decide +kernel
theorem dX10_close_16 : decode cX10_close 16 = .ok (.aload_n 0, 1) := by decide +kernel
theorem dX10_close_17 : decode cX10_close 17 = .ok (.getfield 60, 3) := by decide +kernel
theorem dX10_close_20 : decode cX10_close 20 = .ok (.aload_n 0, 1) := by decide +kernel
theorem dX10_close_21 : decode cX10_close 21 = .ok (.getfield 164, 3) := by decide +kernel
theorem dX10_close_24 : decode cX10_close 24 = .ok (.iconst 1, 1) := by decide +kernel
theorem dX10_close_25 : decode cX10_close 25 = .ok (.isub, 1) := by decide +kernel
theorem dX10_close_26 : decode cX10_close 26 = .ok (.iaload, 1) := by decide +kernel
theorem dX10_close_27 : decode cX10_close 27 = .ok (.istore_n 3, 1) := by decide +kernel
theorem dX10_close_28 : decode cX10_close 28 = .ok (.aload_n 0, 1) := by decide +kernel
theorem dX10_close_29 : decode cX10_close 29 = .ok (.iload_n 3, 1) := by decide +kernel
theorem dX10_close_30 : decode cX10_close 30 = .ok (.iload_n 2, 1) := by decide +kernel
theorem dX10_close_31 : decode cX10_close 31 = .ok (.invokevirtual 196, 3) := by decide +kernel
theorem dX10_close_34 : decode cX10_close 34 = .ok (.iload_n 3, 1) := by decide +kernel
theorem dX10_close_35 : decode cX10_close 35 = .ok (.aload_n 0, 1) := by decide +kernel
theorem dX10_close_36 : decode cX10_close 36 = .ok (.getfield 20, 3) := by decide +kernel
theorem dX10_close_39 : decode cX10_close 39 = .ok (.aload_n 0, 1) := by decide +kernel
theorem dX10_close_40 : decode cX10_close 40 = .ok (.getfield 23, 3) := by decide +kernel
theorem dX10_close_43 : decode cX10_close 43 = .ok (.aload_n 0, 1) := by decide +kernel
theorem dX10_close_44 : decode cX10_close 44 = .ok (.getfield 26, 3) := by decide +kernel
theorem dX10_close_47 : decode cX10_close 47 = .ok (.invokestatic 157, 3) := by decide +kernel
theorem dX10_close_50 : decode cX10_close 50 = .ok (.aload_n 0, 1) := by decide +kernel
theorem dX10_close_51 : decode cX10_close 51 = .ok (.aload_n 0, 1) := by decide +kernel
theorem dX10_close_52 : decode cX10_close 52 = .ok (.getfield 17, 3) := by decide +kernel
theorem dX10_close_55 : decode cX10_close 55 = .ok (.iload_n 3, 1) := by decide +kernel
theorem dX10_close_56 : decode cX10_close 56 = .ok (.iaload, 1) := by decide +kernel
theorem dX10_close_57 : decode cX10_close 57 = .ok (.invokevirtual 189, 3) := by decide +kernel
theorem dX10_close_60 : decode cX10_close 60 = .ok (.if_icmp .ge 5, 3) := by decide +kernel
theorem dX10_close_63 : decode cX10_close 63 = .ok (.iconst (-1), 1) := by decide +kernel
theorem dX10_close_64 : decode cX10_close 64 = .ok (.ireturn, 1) := by decide +kernel
theorem dX10_close_65 : decode cX10_close 65 = .ok (.aload_n 0, 1) := by decide +kernel
theorem dX10_close_66 : decode cX10_close 66 = .ok (.invokevirtual 175, 3) := by decide +kernel
theorem dX10_close_69 : decode cX10_close 69 = .ok (.bipush 41, 2) := by decide +kernel
theorem dX10_close_71 : decode cX10_close 71 = .ok (.if_icmp .eq 10, 3) := by decide +kernel
theorem dX10_close_74 : decode cX10_close 74 = .ok (.aload_n 0, 1) := by decide +kernel
theorem dX10_close_75 : decode cX10_close 75 = .ok (.iconst 1, 1) := by decide +kernel
theorem dX10_close_76 : decode cX10_close 76 = .ok (.putfield 167, 3) := by decide +kernel
theorem dX10_close_79 : decode cX10_close 79 = .ok (.iconst (-1), 1) := by decide +kernel
theorem dX10_close_80 : decode cX10_close 80 = .ok (.ireturn, 1) := by decide +kernel
theorem dX10_close_81 : decode cX10_close 81 = .ok (.aload_n 0, 1) := by decide +kernel
theorem dX10_close_82 : decode cX10_close 82 = .ok (.dup, 1) := by decide +kernel
theorem dX10_close_83 : decode cX10_close 83 = .ok (.getfield 154, 3) := by decide +kernel
theorem dX10_close_86 : decode cX10_close 86 = .ok (.iconst 1, 1) := by decide +kernel
theorem dX10_close_87 : decode cX10_close 87 = .ok (.iadd, 1) := by decide +kernel
theorem dX10_close_88 : decode cX10_close 88 = .ok (.putfield 154, 3) := by decide +kernel
theorem dX10_close_91 : decode cX10_close 91 = .ok (.aload_n 0, 1) := by decide +kernel
theorem dX10_close_92 : decode cX10_close 92 = .ok (.dup, 1) := by decide +kernel
theorem dX10_close_93 : decode cX10_close 93 = .ok (.getfield 164, 3) := by decide +kernel
theorem dX10_close_96 : decode cX10_close 96 = .ok (.iconst 1, 1) := by decide +kernel
theorem dX10_close_97 : decode cX10_close 97 = .ok (.isub, 1) := by decide +kernel
theorem dX10_close_98 : decode cX10_close 98 = .ok (.putfield 164, 3) := by decide +kernel
theorem dX10_close_101 : decode cX10_close 101 = .ok (.aload_n 0, 1) := by decide +kernel
theorem dX10_close_102 : decode cX10_close 102 = .ok (.getfield 17, 3) := by decide +kernel
theorem dX10_close_105 : decode cX10_close 105 = .ok (.iload_n 3, 1) := by decide +kernel
theorem dX10_close_106 : decode cX10_close 106 = .ok (.iaload, 1) := by decide +kernel
theorem dX10_close_107 : decode cX10_close 107 = .ok (.bipush 58, 2) := by decide +kernel
theorem dX10_close_109 : decode cX10_close 109 = .ok (.if_icmp .ne 22, 3) := by decide +kernel
theorem dX10_close_112 : decode cX10_close 112 = .ok (.aload_n 0, 1) := by decide +kernel
theorem dX10_close_113 : decode cX10_close 113 = .ok (.dup, 1) := by decide +kernel
theorem dX10_close_114 : decode cX10_close 114 = .ok (.getfield 161, 3) := by decide +kernel
theorem dX10_close_117 : decode cX10_close 117 = .ok (.iconst 1, 1) := by decide +kernel
theorem dX10_close_118 : decode cX10_close 118 = .ok (.aload_n 0, 1) := by decide +kernel
theorem dX10_close_119 : decode cX10_close 119 = .ok (.getfield 29, 3) := by decide +kernel
theorem dX10_close_122 : decode cX10_close 122 = .ok (.iload_n 3, 1) := by decide +kernel
theorem dX10_close_123 : decode cX10_close 123 = .ok (.iaload, 1) := by decide +kernel
theorem dX10_close_124 : decode cX10_close 124 = .ok (.ishl, 1) := by decide +kernel
theorem dX10_close_125 : decode cX10_close 125 = .ok (.iconst (-1), 1) := by decide +kernel
theorem dX10_close_126 : decode cX10_close 126 = .ok (.ixor, 1) := by decide +kernel
theorem dX10_close_127 : decode cX10_close 127 = .ok (.iand, 1) := by decide +kernel
theorem dX10_close_128 : decode cX10_close 128 = .ok (.putfield 161, 3) := by decide +kernel
theorem dX10_close_131 : decode cX10_close 131 = .ok (.iload_n 3, 1) := by decide +kernel
theorem dX10_close_132 : decode cX10_close 132 = .ok (.istore_n 2, 1) := by decide +kernel
theorem dX10_close_133 : decode cX10_close 133 = .ok (.goto (-131), 3) := by decide +kernel
theorem dX10_close_136 : decode cX10_close 136 = .ok (.aload_n 0, 1) := by decide +kernel
theorem dX10_close_137 : decode cX10_close 137 = .ok (.getfield 167, 3) := by decide +kernel
theorem dX10_close_140 : decode cX10_close 140 = .ok (.ifCond .eq 7, 3) := by decide +kernel
theorem dX10_close_143 : decode cX10_close 143 = .ok (.iconst (-1), 1) := by decide +kernel
theorem dX10_close_144 : decode cX10_close 144 = .ok (.goto 4, 3) := by decide +kernel
theorem dX10_close_147 : decode cX10_close 147 = .ok (.iload_n 2, 1) := by decide +kernel
theorem dX10_close_148 : decode cX10_close 148 = .ok (.ireturn, 1) := by decide +kernel
set_option maxRecDepth 20000 in
set_option maxHeartbeats 4000000 in
theorem w_X10_close {c : rX} {d : Nat} {S : rS} {K : Option Value → rS → Prop} (ho : rOK c) (p0 : Int32) (h : rG c eX10_close (d + 1) (rQ c K) 2 [some (.ref c.2.2.1), none, some (.int p0), none] [] S) : rM c (d + 1) eX10_close [.ref c.2.2.1, .int p0] S K := by
  refine rM.of (by decide) (Nat.le_of_ble_eq_true rfl) ?_
  show rG c eX10_close (d + 1) (rQ c K) 0 [some (.ref c.2.2.1), some (.int p0), none, none] [] S
  refine ag_iload_n dX10_close_0 rfl ?_
  refine ag_istore_n (lv2 := [some (.ref c.2.2.1), some (.int p0), some (.int p0), none]) dX10_close_1 (Nat.le_of_ble_eq_true rfl) rfl ?_
  refine ag_drop 1 ?_
  exact h
set_option maxRecDepth 20000 in
set_option maxHeartbeats 4000000 in
theorem w_X10_close_2 {c : rX} {d : Nat} {S : rS} {K : Option Value → rS → Prop} (ho : rOK c) (v2 : Int32) (h : ((S.1 21 0) ≤ 0 → (((S.1 23 0) = 0 → (K (some (.int v2)) S)) ∧ (¬ (S.1 23 0) = 0 → (K (some (.int (-1))) S)))) ∧ (¬ (S.1 21 0) ≤ 0 → ((¬ (S.1 23 0) = 0 → (((S.1 23 0) = 0 → (K (some (.int v2)) S)) ∧ (¬ (S.1 23 0) = 0 → (K (some (.int (-1))) S)))) ∧ ((S.1 23 0) = 0 → (∃ j5 : Nat, am_ix ((S.1 21 0) - 1) j5 8 ∧ (rM c d eX10_give (.ref c.2.2.1 :: [.int (S.1 24 j5), .int v2]) S (fun v S7 => v = none ∧ (rM c d eX10_partsHad [.int (S.1 24 j5), .ref (c.2.2.1 + (2 + 1)), .ref (c.2.2.1 + (3 + 1)), .ref (c.2.2.1 + (4 + 1))] S7 (fun v S9 => ∃ z10 : Int32, v = some (.int z10) ∧ (∃ j11 : Nat, am_ix (S.1 24 j5) j11 320 ∧ (rM c d eX10_partsOf (.ref c.2.2.1 :: [.int (S9.1 4 j11)]) S9 (fun v S13 => ∃ z14 : Int32, v = some (.int z14) ∧ ((z14 ≤ z10 → (rM c d eX10_peek (.ref c.2.2.1 :: []) S13 (fun v S16 => ∃ z17 : Int32, v = some (.int z17) ∧ ((z17 = 41 → (∃ j19 : Nat, am_ix (S.1 24 j5) j19 320 ∧ ((¬ (S16.1 4 j19) = 58 → (rG c eX10_close (d + 1) (rQ c K) 2 [some (.ref c.2.2.1), none, some (.int (S.1 24 j5)), none] [] (rsi (rsi S16 20 0 ((S16.1 20 0) + 1)) 21 0 ((S16.1 21 0) - 1)))) ∧ ((S16.1 4 j19) = 58 → (∃ j22 : Nat, am_ix (S.1 24 j5) j22 320 ∧ (rG c eX10_close (d + 1) (rQ c K) 2 [some (.ref c.2.2.1), none, some (.int (S.1 24 j5)), none] [] (rsi (rsi (rsi S16 20 0 ((S16.1 20 0) + 1)) 21 0 ((S16.1 21 0) - 1)) 22 0 ((S16.1 22 0) &&& ((1 <<< ((S16.1 8 j22) &&& 31)) ^^^ (-1)))))))))) ∧ (¬ z17 = 41 → (K (some (.int (-1))) (rsi S16 23 0 1))))))) ∧ (¬ z14 ≤ z10 → (K (some (.int (-1))) S13))))))))))))))) : rG c eX10_close (d + 1) (rQ c K) 2 [some (.ref c.2.2.1), none, some (.int v2), none] [] S := by
  refine ag_aload_n dX10_close_2 rfl (Or.inr ⟨_, rfl⟩) ?_
  refine rr_get (v := .int (S.1 21 0)) ho dX10_close_3 fw_10_164 rfl ?_
  refine ag_if_le (tgt := 136) dX10_close_6 rfl (fun hc1 => ?_) (fun hc1 => ?_)
  · have h := h.1 hc1
    refine ag_aload_n dX10_close_136 rfl (Or.inr ⟨_, rfl⟩) ?_
    refine rr_get (v := .int (S.1 23 0)) ho dX10_close_137 fw_10_167 rfl ?_
    refine ag_if_eq (tgt := 147) dX10_close_140 rfl (fun hc2 => ?_) (fun hc2 => ?_)
    · have h := h.1 hc2
      refine ag_iload_n dX10_close_147 rfl ?_
      exact ag_ret (v := some (.int v2)) dX10_close_148 ⟨_, rfl, rfl⟩ ⟨_, rfl, _, rfl, h⟩ rfl
    · have h := h.2 hc2
      refine ag_iconst (v := (-1)) dX10_close_143 rfl ?_
      refine ag_goto (tgt := 148) dX10_close_144 rfl ?_
      exact ag_ret (v := some (.int (-1))) dX10_close_148 ⟨_, rfl, rfl⟩ ⟨_, rfl, _, rfl, h⟩ rfl
  · have h := h.2 hc1
    refine ag_aload_n dX10_close_9 rfl (Or.inr ⟨_, rfl⟩) ?_
    refine rr_get (v := .int (S.1 23 0)) ho dX10_close_10 fw_10_167 rfl ?_
    refine ag_if_ne (tgt := 136) dX10_close_13 rfl (fun hc3 => ?_) (fun hc3 => ?_)
    · have h := h.1 hc3
      refine ag_aload_n dX10_close_136 rfl (Or.inr ⟨_, rfl⟩) ?_
      refine rr_get (v := .int (S.1 23 0)) ho dX10_close_137 fw_10_167 rfl ?_
      refine ag_if_eq (tgt := 147) dX10_close_140 rfl (fun hc4 => ?_) (fun hc4 => ?_)
      · have h := h.1 hc4
        refine ag_iload_n dX10_close_147 rfl ?_
        exact ag_ret (v := some (.int v2)) dX10_close_148 ⟨_, rfl, rfl⟩ ⟨_, rfl, _, rfl, h⟩ rfl
      · have h := h.2 hc4
        refine ag_iconst (v := (-1)) dX10_close_143 rfl ?_
        refine ag_goto (tgt := 148) dX10_close_144 rfl ?_
        exact ag_ret (v := some (.int (-1))) dX10_close_148 ⟨_, rfl, rfl⟩ ⟨_, rfl, _, rfl, h⟩ rfl
    · have h := h.2 hc3
      refine ag_aload_n dX10_close_16 rfl (Or.inr ⟨_, rfl⟩) ?_
      refine rr_get (v := .ref (c.2.2.1 + (15 + 1))) ho dX10_close_17 fw_10_60 rfl ?_
      refine ag_aload_n dX10_close_20 rfl (Or.inr ⟨_, rfl⟩) ?_
      refine rr_get (v := .int (S.1 21 0)) ho dX10_close_21 fw_10_164 rfl ?_
      refine ag_iconst (v := 1) dX10_close_24 rfl ?_
      refine ag_isub dX10_close_25 rfl ?_
      obtain ⟨j5, hj6, h⟩ := h
      refine rr_il (v := S.1 24 j5) ho dX10_close_26 (k := 15) (f := 24) rfl hj6 rfl ?_
      refine ag_istore_n (lv2 := [some (.ref c.2.2.1), none, some (.int v2), some (.int (S.1 24 j5))]) dX10_close_27 (Nat.le_of_ble_eq_true rfl) rfl ?_
      refine ag_aload_n dX10_close_28 rfl (Or.inr ⟨_, rfl⟩) ?_
      refine ag_iload_n dX10_close_29 rfl ?_
      refine ag_iload_n dX10_close_30 rfl ?_
      refine rr_call (as := [.int (S.1 24 j5), .int v2]) (rest := []) ho dX10_close_31 me_X10_give mi_X10_give lk_10_196 rfl rfl (Nat.le_of_ble_eq_true rfl) ?_
      refine rM.mono h ?_
      rintro v S7 ⟨rfl, h⟩
      show rG _ _ _ _ _ _ [] _
      refine ag_iload_n dX10_close_34 rfl ?_
      refine ag_aload_n dX10_close_35 rfl (Or.inr ⟨_, rfl⟩) ?_
      refine rr_get (v := .ref (c.2.2.1 + (2 + 1))) ho dX10_close_36 fw_10_20 rfl ?_
      refine ag_aload_n dX10_close_39 rfl (Or.inr ⟨_, rfl⟩) ?_
      refine rr_get (v := .ref (c.2.2.1 + (3 + 1))) ho dX10_close_40 fw_10_23 rfl ?_
      refine ag_aload_n dX10_close_43 rfl (Or.inr ⟨_, rfl⟩) ?_
      refine rr_get (v := .ref (c.2.2.1 + (4 + 1))) ho dX10_close_44 fw_10_26 rfl ?_
      refine rr_calls (as := [.int (S.1 24 j5), .ref (c.2.2.1 + (2 + 1)), .ref (c.2.2.1 + (3 + 1)), .ref (c.2.2.1 + (4 + 1))]) (rest := []) dX10_close_47 me_X10_partsHad ms_X10_partsHad lk_10_157 rfl rfl (Nat.le_of_ble_eq_true rfl) ?_
      refine rM.mono h ?_
      rintro v S9 ⟨z10, rfl, h⟩
      show rG _ _ _ _ _ _ [.int z10] _
      refine ag_aload_n dX10_close_50 rfl (Or.inr ⟨_, rfl⟩) ?_
      refine ag_aload_n dX10_close_51 rfl (Or.inr ⟨_, rfl⟩) ?_
      refine rr_get (v := .ref (c.2.2.1 + (1 + 1))) ho dX10_close_52 fw_10_17 rfl ?_
      refine ag_iload_n dX10_close_55 rfl ?_
      obtain ⟨j11, hj12, h⟩ := h
      refine rr_il (v := S9.1 4 j11) ho dX10_close_56 (k := 1) (f := 4) rfl hj12 rfl ?_
      refine rr_call (as := [.int (S9.1 4 j11)]) (rest := [.int z10]) ho dX10_close_57 me_X10_partsOf mi_X10_partsOf lk_10_189 rfl rfl (Nat.le_of_ble_eq_true rfl) ?_
      refine rM.mono h ?_
      rintro v S13 ⟨z14, rfl, h⟩
      show rG _ _ _ _ _ _ [.int z14, .int z10] _
      refine ag_icmp_ge (tgt := 65) dX10_close_60 rfl (fun hc15 => ?_) (fun hc15 => ?_)
      · have h := h.1 hc15
        refine ag_aload_n dX10_close_65 rfl (Or.inr ⟨_, rfl⟩) ?_
        refine rr_call (as := []) (rest := []) ho dX10_close_66 me_X10_peek mi_X10_peek lk_10_175 rfl rfl (Nat.le_of_ble_eq_true rfl) ?_
        refine rM.mono h ?_
        rintro v S16 ⟨z17, rfl, h⟩
        show rG _ _ _ _ _ _ [.int z17] _
        refine ag_bipush (v := 41) dX10_close_69 (by decide) ?_
        refine ag_icmp_eq (tgt := 81) dX10_close_71 rfl (fun hc18 => ?_) (fun hc18 => ?_)
        · have h := h.1 hc18
          refine ag_aload_n dX10_close_81 rfl (Or.inr ⟨_, rfl⟩) ?_
          refine ag_dup dX10_close_82 rfl ?_
          refine rr_get (v := .int (S16.1 20 0)) ho dX10_close_83 fw_10_154 rfl ?_
          refine ag_iconst (v := 1) dX10_close_86 rfl ?_
          refine ag_iadd dX10_close_87 rfl ?_
          refine rr_put (S2 := (rsi S16 20 0 ((S16.1 20 0) + 1))) ho dX10_close_88 pw_10_154 rfl (fun _ => ⟨rfl, rfl⟩) rfl ?_
          refine ag_aload_n dX10_close_91 rfl (Or.inr ⟨_, rfl⟩) ?_
          refine ag_dup dX10_close_92 rfl ?_
          refine rr_get (v := .int (S16.1 21 0)) ho dX10_close_93 fw_10_164 rfl ?_
          refine ag_iconst (v := 1) dX10_close_96 rfl ?_
          refine ag_isub dX10_close_97 rfl ?_
          refine rr_put (S2 := (rsi (rsi S16 20 0 ((S16.1 20 0) + 1)) 21 0 ((S16.1 21 0) - 1))) ho dX10_close_98 pw_10_164 rfl (fun _ => ⟨rfl, rfl⟩) rfl ?_
          refine ag_aload_n dX10_close_101 rfl (Or.inr ⟨_, rfl⟩) ?_
          refine rr_get (v := .ref (c.2.2.1 + (1 + 1))) ho dX10_close_102 fw_10_17 rfl ?_
          refine ag_iload_n dX10_close_105 rfl ?_
          obtain ⟨j19, hj20, h⟩ := h
          refine rr_il (v := S16.1 4 j19) ho dX10_close_106 (k := 1) (f := 4) rfl hj20 rfl ?_
          refine ag_bipush (v := 58) dX10_close_107 (by decide) ?_
          refine ag_icmp_ne (tgt := 131) dX10_close_109 rfl (fun hc21 => ?_) (fun hc21 => ?_)
          · have h := h.1 hc21
            refine ag_iload_n dX10_close_131 rfl ?_
            refine ag_istore_n (lv2 := [some (.ref c.2.2.1), none, some (.int (S.1 24 j5)), some (.int (S.1 24 j5))]) dX10_close_132 (Nat.le_of_ble_eq_true rfl) rfl ?_
            refine ag_goto (tgt := 2) dX10_close_133 rfl ?_
            refine ag_drop 3 ?_
            exact h
          · have h := h.2 hc21
            refine ag_aload_n dX10_close_112 rfl (Or.inr ⟨_, rfl⟩) ?_
            refine ag_dup dX10_close_113 rfl ?_
            refine rr_get (v := .int (S16.1 22 0)) ho dX10_close_114 fw_10_161 rfl ?_
            refine ag_iconst (v := 1) dX10_close_117 rfl ?_
            refine ag_aload_n dX10_close_118 rfl (Or.inr ⟨_, rfl⟩) ?_
            refine rr_get (v := .ref (c.2.2.1 + (5 + 1))) ho dX10_close_119 fw_10_29 rfl ?_
            refine ag_iload_n dX10_close_122 rfl ?_
            obtain ⟨j22, hj23, h⟩ := h
            refine rr_il (v := S16.1 8 j22) ho dX10_close_123 (k := 5) (f := 8) rfl hj23 rfl ?_
            refine ag_ishl dX10_close_124 rfl ?_
            refine ag_iconst (v := (-1)) dX10_close_125 rfl ?_
            refine ag_ixor dX10_close_126 rfl ?_
            refine ag_iand dX10_close_127 rfl ?_
            refine rr_put (S2 := (rsi (rsi (rsi S16 20 0 ((S16.1 20 0) + 1)) 21 0 ((S16.1 21 0) - 1)) 22 0 ((S16.1 22 0) &&& ((1 <<< ((S16.1 8 j22) &&& 31)) ^^^ (-1))))) ho dX10_close_128 pw_10_161 rfl (fun _ => ⟨rfl, rfl⟩) rfl ?_
            refine ag_iload_n dX10_close_131 rfl ?_
            refine ag_istore_n (lv2 := [some (.ref c.2.2.1), none, some (.int (S.1 24 j5)), some (.int (S.1 24 j5))]) dX10_close_132 (Nat.le_of_ble_eq_true rfl) rfl ?_
            refine ag_goto (tgt := 2) dX10_close_133 rfl ?_
            refine ag_drop 3 ?_
            exact h
        · have h := h.2 hc18
          refine ag_aload_n dX10_close_74 rfl (Or.inr ⟨_, rfl⟩) ?_
          refine ag_iconst (v := 1) dX10_close_75 rfl ?_
          refine rr_put (S2 := (rsi S16 23 0 1)) ho dX10_close_76 pw_10_167 rfl (rB_ok (Or.inr rfl)) rfl ?_
          refine ag_iconst (v := (-1)) dX10_close_79 rfl ?_
          exact ag_ret (v := some (.int (-1))) dX10_close_80 ⟨_, rfl, rfl⟩ ⟨_, rfl, _, rfl, h⟩ rfl
      · have h := h.2 hc15
        refine ag_iconst (v := (-1)) dX10_close_63 rfl ?_
        exact ag_ret (v := some (.int (-1))) dX10_close_64 ⟨_, rfl, rfl⟩ ⟨_, rfl, _, rfl, h⟩ rfl
theorem dX10_readRest_0 : decode cX10_readRest 0 = .ok (.aload_n 0, 1) := by decide +kernel
theorem dX10_readRest_1 : decode cX10_readRest 1 = .ok (.getfield 38, 3) := by decide +kernel
theorem dX10_readRest_4 : decode cX10_readRest 4 = .ok (.iconst 4, 1) := by decide +kernel
theorem dX10_readRest_5 : decode cX10_readRest 5 = .ok (.iconst 0, 1) := by decide +kernel
theorem dX10_readRest_6 : decode cX10_readRest 6 = .ok (.iastore, 1) := by decide +kernel
theorem dX10_readRest_7 : decode cX10_readRest 7 = .ok (.aload_n 0, 1) := by decide +kernel
theorem dX10_readRest_8 : decode cX10_readRest 8 = .ok (.iconst 0, 1) := by decide +kernel
theorem dX10_readRest_9 : decode cX10_readRest 9 = .ok (.putfield 167, 3) := by decide +kernel
theorem dX10_readRest_12 : decode cX10_readRest 12 = .ok (.aload_n 0, 1) := by decide +kernel
theorem dX10_readRest_13 : decode cX10_readRest 13 = .ok (.iload_n 1, 1) := by decide +kernel
theorem dX10_readRest_14 : decode cX10_readRest 14 = .ok (.putfield 161, 3) := by decide +kernel
theorem dX10_readRest_17 : decode cX10_readRest 17 = .ok (.aload_n 0, 1) := by decide +kernel
theorem dX10_readRest_18 : decode cX10_readRest 18 = .ok (.invokevirtual 200, 3) := by decide +kernel
theorem dX10_readRest_21 : decode cX10_readRest 21 = .ok (.istore_n 2, 1) := by decide +kernel
theorem dX10_readRest_22 : decode cX10_readRest 22 = .ok (.aload_n 0, 1) := by decide +kernel
theorem dX10_readRest_23 : decode cX10_readRest 23 = .ok (.getfield 35, 3) := by decide +kernel
theorem dX10_readRest_26 : decode cX10_readRest 26 = .ok (.iconst 4, 1) := by decide +kernel
theorem dX10_readRest_27 : decode cX10_readRest 27 = .ok (.iload_n 2, 1) := by decide +kernel
theorem dX10_readRest_28 : decode cX10_readRest 28 = .ok (.iastore, 1) := by decide +kernel
theorem dX10_readRest_29 : decode cX10_readRest 29 = .ok (.aload_n 0, 1) := by decide +kernel
theorem dX10_readRest_30 : decode cX10_readRest 30 = .ok (.getfield 167, 3) := by decide +kernel
theorem dX10_readRest_33 : decode cX10_readRest 33 = .ok (.ifCond .ne 18, 3) := by decide +kernel
theorem dX10_readRest_36 : decode cX10_readRest 36 = .ok (.aload_n 0, 1) := by decide +kernel
theorem dX10_readRest_37 : decode cX10_readRest 37 = .ok (.getfield 154, 3) := by decide +kernel
theorem dX10_readRest_40 : decode cX10_readRest 40 = .ok (.aload_n 0, 1) := by decide +kernel
theorem dX10_readRest_41 : decode cX10_readRest 41 = .ok (.getfield 151, 3) := by decide +kernel
theorem dX10_readRest_44 : decode cX10_readRest 44 = .ok (.if_icmp .ne 7, 3) := by decide +kernel
theorem dX10_readRest_47 : decode cX10_readRest 47 = .ok (.iconst 1, 1) := by decide +kernel
theorem dX10_readRest_48 : decode cX10_readRest 48 = .ok (.goto 4, 3) := by decide +kernel
theorem dX10_readRest_51 : decode cX10_readRest 51 = .ok (.iconst 0, 1) := by decide +kernel
theorem dX10_readRest_52 : decode cX10_readRest 52 = .ok (.ireturn, 1) := by decide +kernel
set_option maxRecDepth 20000 in
set_option maxHeartbeats 4000000 in
theorem w_X10_readRest {c : rX} {d : Nat} {S : rS} {K : Option Value → rS → Prop} (ho : rOK c) (p0 : Int32) (h : rM c d eX10_readExpression (.ref c.2.2.1 :: []) (rsi (rsi (rsi S 11 4 0) 23 0 0) 22 0 p0) (fun v S1 => ∃ z2 : Int32, v = some (.int z2) ∧ ((¬ (S1.1 23 0) = 0 → (K (some (.int 0)) (rsi S1 10 4 z2))) ∧ ((S1.1 23 0) = 0 → ((¬ (S1.1 20 0) = (S1.1 2 0) → (K (some (.int 0)) (rsi S1 10 4 z2))) ∧ ((S1.1 20 0) = (S1.1 2 0) → (K (some (.int 1)) (rsi S1 10 4 z2)))))))) : rM c (d + 1) eX10_readRest [.ref c.2.2.1, .int p0] S K := by
  refine rM.of (by decide) (Nat.le_of_ble_eq_true rfl) ?_
  show rG c eX10_readRest (d + 1) (rQ c K) 0 [some (.ref c.2.2.1), some (.int p0), none] [] S
  refine ag_aload_n dX10_readRest_0 rfl (Or.inr ⟨_, rfl⟩) ?_
  refine rr_get (v := .ref (c.2.2.1 + (8 + 1))) ho dX10_readRest_1 fw_10_38 rfl ?_
  refine ag_iconst (v := 4) dX10_readRest_4 rfl ?_
  refine ag_iconst (v := 0) dX10_readRest_5 rfl ?_
  refine rr_is (S2 := (rsi S 11 4 0)) ho dX10_readRest_6 (k := 8) (f := 11) rfl ⟨by decide, by decide, by decide⟩ rfl ?_
  refine ag_aload_n dX10_readRest_7 rfl (Or.inr ⟨_, rfl⟩) ?_
  refine ag_iconst (v := 0) dX10_readRest_8 rfl ?_
  refine rr_put (S2 := (rsi (rsi S 11 4 0) 23 0 0)) ho dX10_readRest_9 pw_10_167 rfl (rB_ok (Or.inl rfl)) rfl ?_
  refine ag_aload_n dX10_readRest_12 rfl (Or.inr ⟨_, rfl⟩) ?_
  refine ag_iload_n dX10_readRest_13 rfl ?_
  refine rr_put (S2 := (rsi (rsi (rsi S 11 4 0) 23 0 0) 22 0 p0)) ho dX10_readRest_14 pw_10_161 rfl (fun _ => ⟨rfl, rfl⟩) rfl ?_
  refine ag_aload_n dX10_readRest_17 rfl (Or.inr ⟨_, rfl⟩) ?_
  refine rr_call (as := []) (rest := []) ho dX10_readRest_18 me_X10_readExpression mi_X10_readExpression lk_10_200 rfl rfl (Nat.le_of_ble_eq_true rfl) ?_
  refine rM.mono h ?_
  rintro v S1 ⟨z2, rfl, h⟩
  show rG _ _ _ _ _ _ [.int z2] _
  refine ag_istore_n (lv2 := [some (.ref c.2.2.1), some (.int p0), some (.int z2)]) dX10_readRest_21 (Nat.le_of_ble_eq_true rfl) rfl ?_
  refine ag_aload_n dX10_readRest_22 rfl (Or.inr ⟨_, rfl⟩) ?_
  refine rr_get (v := .ref (c.2.2.1 + (7 + 1))) ho dX10_readRest_23 fw_10_35 rfl ?_
  refine ag_iconst (v := 4) dX10_readRest_26 rfl ?_
  refine ag_iload_n dX10_readRest_27 rfl ?_
  refine rr_is (S2 := (rsi S1 10 4 z2)) ho dX10_readRest_28 (k := 7) (f := 10) rfl ⟨by decide, by decide, by decide⟩ rfl ?_
  refine ag_aload_n dX10_readRest_29 rfl (Or.inr ⟨_, rfl⟩) ?_
  refine rr_get (v := .int (S1.1 23 0)) ho dX10_readRest_30 fw_10_167 rfl ?_
  refine ag_if_ne (tgt := 51) dX10_readRest_33 rfl (fun hc3 => ?_) (fun hc3 => ?_)
  · have h := h.1 hc3
    refine ag_iconst (v := 0) dX10_readRest_51 rfl ?_
    exact ag_ret (v := some (.int 0)) dX10_readRest_52 ⟨_, rfl, rB_n (Or.inl rfl)⟩ ⟨_, rfl, _, rfl, h⟩ rfl
  · have h := h.2 hc3
    refine ag_aload_n dX10_readRest_36 rfl (Or.inr ⟨_, rfl⟩) ?_
    refine rr_get (v := .int (S1.1 20 0)) ho dX10_readRest_37 fw_10_154 rfl ?_
    refine ag_aload_n dX10_readRest_40 rfl (Or.inr ⟨_, rfl⟩) ?_
    refine rr_get (v := .int (S1.1 2 0)) ho dX10_readRest_41 fw_10_151 rfl ?_
    refine ag_icmp_ne (tgt := 51) dX10_readRest_44 rfl (fun hc4 => ?_) (fun hc4 => ?_)
    · have h := h.1 hc4
      refine ag_iconst (v := 0) dX10_readRest_51 rfl ?_
      exact ag_ret (v := some (.int 0)) dX10_readRest_52 ⟨_, rfl, rB_n (Or.inl rfl)⟩ ⟨_, rfl, _, rfl, h⟩ rfl
    · have h := h.2 hc4
      refine ag_iconst (v := 1) dX10_readRest_47 rfl ?_
      refine ag_goto (tgt := 52) dX10_readRest_48 rfl ?_
      exact ag_ret (v := some (.int 1)) dX10_readRest_52 ⟨_, rfl, rB_n (Or.inr rfl)⟩ ⟨_, rfl, _, rfl, h⟩ rfl
theorem dX10_move_0 : decode cX10_move 0 = .ok (.iconst 0, 1) := by decide +kernel
theorem dX10_move_1 : decode cX10_move 1 = .ok (.istore_n 2, 1) := by decide +kernel
theorem dX10_move_2 : decode cX10_move 2 = .ok (.iload_n 2, 1) := by decide +kernel
theorem dX10_move_3 : decode cX10_move 3 = .ok (.aload_n 0, 1) := by decide +kernel
theorem dX10_move_4 : decode cX10_move 4 = .ok (.getfield 38, 3) := by decide +kernel
theorem dX10_move_7 : decode cX10_move 7 = .ok (.iconst 4, 1) := by decide +kernel
theorem dX10_move_8 : decode cX10_move 8 = .ok (.iaload, 1) := by decide +kernel
theorem dX10_move_9 : decode cX10_move 9 = .ok (.if_icmp .ge 113, 3) := by decide +kernel
theorem dX10_move_12 : decode cX10_move 12 = .ok (.sipush 256, 3) := by decide +kernel
theorem dX10_move_15 : decode cX10_move 15 = .ok (.iload_n 2, 1) := by decide +kernel
theorem dX10_move_16 : decode cX10_move 16 = .ok (.iadd, 1) := by decide +kernel
theorem dX10_move_17 : decode cX10_move 17 = .ok (.istore_n 3, 1) := by decide +kernel
theorem dX10_move_18 : decode cX10_move 18 = .ok (.bipush 64, 2) := by decide +kernel
theorem dX10_move_20 : decode cX10_move 20 = .ok (.iload_n 1, 1) := by decide +kernel
theorem dX10_move_21 : decode cX10_move 21 = .ok (.imul, 1) := by decide +kernel
theorem dX10_move_22 : decode cX10_move 22 = .ok (.iload_n 2, 1) := by decide +kernel
theorem dX10_move_23 : decode cX10_move 23 = .ok (.iadd, 1) := by decide +kernel
theorem dX10_move_24 : decode cX10_move 24 = .ok (.istore 4, 2) := by decide +kernel
theorem dX10_move_26 : decode cX10_move 26 = .ok (.aload_n 0, 1) := by decide +kernel
theorem dX10_move_27 : decode cX10_move 27 = .ok (.getfield 17, 3) := by decide +kernel
theorem dX10_move_30 : decode cX10_move 30 = .ok (.iload 4, 2) := by decide +kernel
theorem dX10_move_32 : decode cX10_move 32 = .ok (.aload_n 0, 1) := by decide +kernel
theorem dX10_move_33 : decode cX10_move 33 = .ok (.getfield 17, 3) := by decide +kernel
theorem dX10_move_36 : decode cX10_move 36 = .ok (.iload_n 3, 1) := by decide +kernel
theorem dX10_move_37 : decode cX10_move 37 = .ok (.iaload, 1) := by decide +kernel
theorem dX10_move_38 : decode cX10_move 38 = .ok (.iastore, 1) := by decide +kernel
theorem dX10_move_39 : decode cX10_move 39 = .ok (.aload_n 0, 1) := by decide +kernel
theorem dX10_move_40 : decode cX10_move 40 = .ok (.getfield 29, 3) := by decide +kernel
theorem dX10_move_43 : decode cX10_move 43 = .ok (.iload 4, 2) := by decide +kernel
theorem dX10_move_45 : decode cX10_move 45 = .ok (.aload_n 0, 1) := by decide +kernel
theorem dX10_move_46 : decode cX10_move 46 = .ok (.getfield 29, 3) := by decide +kernel
theorem dX10_move_49 : decode cX10_move 49 = .ok (.iload_n 3, 1) := by decide +kernel
theorem dX10_move_50 : decode cX10_move 50 = .ok (.iaload, 1) := by decide +kernel
theorem dX10_move_51 : decode cX10_move 51 = .ok (.iastore, 1) := by decide +kernel
theorem dX10_move_52 : decode cX10_move 52 = .ok (.aload_n 0, 1) := by decide +kernel
theorem dX10_move_53 : decode cX10_move 53 = .ok (.getfield 32, 3) := by decide +kernel
theorem dX10_move_56 : decode cX10_move 56 = .ok (.iload 4, 2) := by decide +kernel
theorem dX10_move_58 : decode cX10_move 58 = .ok (.aload_n 0, 1) := by decide +kernel
theorem dX10_move_59 : decode cX10_move 59 = .ok (.getfield 32, 3) := by decide +kernel
theorem dX10_move_62 : decode cX10_move 62 = .ok (.iload_n 3, 1) := by decide +kernel
theorem dX10_move_63 : decode cX10_move 63 = .ok (.iaload, 1) := by decide +kernel
theorem dX10_move_64 : decode cX10_move 64 = .ok (.iastore, 1) := by decide +kernel
theorem dX10_move_65 : decode cX10_move 65 = .ok (.aload_n 0, 1) := by decide +kernel
theorem dX10_move_66 : decode cX10_move 66 = .ok (.getfield 20, 3) := by decide +kernel
theorem dX10_move_69 : decode cX10_move 69 = .ok (.iload 4, 2) := by decide +kernel
theorem dX10_move_71 : decode cX10_move 71 = .ok (.aload_n 0, 1) := by decide +kernel
theorem dX10_move_72 : decode cX10_move 72 = .ok (.getfield 20, 3) := by decide +kernel
theorem dX10_move_75 : decode cX10_move 75 = .ok (.iload_n 3, 1) := by decide +kernel
theorem dX10_move_76 : decode cX10_move 76 = .ok (.iaload, 1) := by decide +kernel
theorem dX10_move_77 : decode cX10_move 77 = .ok (.iload_n 1, 1) := by decide +kernel
theorem dX10_move_78 : decode cX10_move 78 = .ok (.invokestatic 203, 3) := by decide +kernel
theorem dX10_move_81 : decode cX10_move 81 = .ok (.iastore, 1) := by decide +kernel
theorem dX10_move_82 : decode cX10_move 82 = .ok (.aload_n 0, 1) := by decide +kernel
theorem dX10_move_83 : decode cX10_move 83 = .ok (.getfield 23, 3) := by decide +kernel
theorem dX10_move_86 : decode cX10_move 86 = .ok (.iload 4, 2) := by decide +kernel
theorem dX10_move_88 : decode cX10_move 88 = .ok (.aload_n 0, 1) := by decide +kernel
theorem dX10_move_89 : decode cX10_move 89 = .ok (.getfield 23, 3) := by decide +kernel
theorem dX10_move_92 : decode cX10_move 92 = .ok (.iload_n 3, 1) := by decide +kernel
theorem dX10_move_93 : decode cX10_move 93 = .ok (.iaload, 1) := by decide +kernel
theorem dX10_move_94 : decode cX10_move 94 = .ok (.iload_n 1, 1) := by decide +kernel
theorem dX10_move_95 : decode cX10_move 95 = .ok (.invokestatic 203, 3) := by decide +kernel
theorem dX10_move_98 : decode cX10_move 98 = .ok (.iastore, 1) := by decide +kernel
theorem dX10_move_99 : decode cX10_move 99 = .ok (.aload_n 0, 1) := by decide +kernel
theorem dX10_move_100 : decode cX10_move 100 = .ok (.getfield 26, 3) := by decide +kernel
theorem dX10_move_103 : decode cX10_move 103 = .ok (.iload 4, 2) := by decide +kernel
theorem dX10_move_105 : decode cX10_move 105 = .ok (.aload_n 0, 1) := by decide +kernel
theorem dX10_move_106 : decode cX10_move 106 = .ok (.getfield 26, 3) := by decide +kernel
theorem dX10_move_109 : decode cX10_move 109 = .ok (.iload_n 3, 1) := by decide +kernel
theorem dX10_move_110 : decode cX10_move 110 = .ok (.iaload, 1) := by decide +kernel
theorem dX10_move_111 : decode cX10_move 111 = .ok (.iload_n 1, 1) := by decide +kernel
theorem dX10_move_112 : decode cX10_move 112 = .ok (.invokestatic 203, 3) := by decide +kernel
theorem dX10_move_115 : decode cX10_move 115 = .ok (.iastore, 1) := by decide +kernel
theorem dX10_move_116 : decode cX10_move 116 = .ok (.iinc 2 1, 3) := by decide +kernel
theorem dX10_move_119 : decode cX10_move 119 = .ok (.goto (-117), 3) := by decide +kernel
theorem dX10_move_122 : decode cX10_move 122 = .ok (.aload_n 0, 1) := by decide +kernel
theorem dX10_move_123 : decode cX10_move 123 = .ok (.getfield 38, 3) := by decide +kernel
theorem dX10_move_126 : decode cX10_move 126 = .ok (.iload_n 1, 1) := by decide +kernel
theorem dX10_move_127 : decode cX10_move 127 = .ok (.aload_n 0, 1) := by decide +kernel
theorem dX10_move_128 : decode cX10_move 128 = .ok (.getfield 38, 3) := by decide +kernel
theorem dX10_move_131 : decode cX10_move 131 = .ok (.iconst 4, 1) := by decide +kernel
theorem dX10_move_132 : decode cX10_move 132 = .ok (.iaload, 1) := by decide +kernel
theorem dX10_move_133 : decode cX10_move 133 = .ok (.iastore, 1) := by decide +kernel
theorem dX10_move_134 : decode cX10_move 134 = .ok (.aload_n 0, 1) := by decide +kernel
theorem dX10_move_135 : decode cX10_move 135 = .ok (.getfield 35, 3) := by decide +kernel
theorem dX10_move_138 : decode cX10_move 138 = .ok (.iload_n 1, 1) := by decide +kernel
theorem dX10_move_139 : decode cX10_move 139 = .ok (.aload_n 0, 1) := by decide +kernel
theorem dX10_move_140 : decode cX10_move 140 = .ok (.getfield 35, 3) := by decide +kernel
theorem dX10_move_143 : decode cX10_move 143 = .ok (.iconst 4, 1) := by decide +kernel
theorem dX10_move_144 : decode cX10_move 144 = .ok (.iaload, 1) := by decide +kernel
theorem dX10_move_145 : decode cX10_move 145 = .ok (.iload_n 1, 1) := by decide +kernel
theorem dX10_move_146 : decode cX10_move 146 = .ok (.invokestatic 203, 3) := by decide +kernel
theorem dX10_move_149 : decode cX10_move 149 = .ok (.iastore, 1) := by decide +kernel
theorem dX10_move_150 : decode cX10_move 150 = .ok (.return_, 1) := by decide +kernel
set_option maxRecDepth 20000 in
set_option maxHeartbeats 4000000 in
theorem w_X10_move {c : rX} {d : Nat} {S : rS} {K : Option Value → rS → Prop} (ho : rOK c) (p0 : Int32) (h : rG c eX10_move (d + 1) (rQ c K) 2 [some (.ref c.2.2.1), some (.int p0), some (.int 0), none, none] [] S) : rM c (d + 1) eX10_move [.ref c.2.2.1, .int p0] S K := by
  refine rM.of (by decide) (Nat.le_of_ble_eq_true rfl) ?_
  show rG c eX10_move (d + 1) (rQ c K) 0 [some (.ref c.2.2.1), some (.int p0), none, none, none] [] S
  refine ag_iconst (v := 0) dX10_move_0 rfl ?_
  refine ag_istore_n (lv2 := [some (.ref c.2.2.1), some (.int p0), some (.int 0), none, none]) dX10_move_1 (Nat.le_of_ble_eq_true rfl) rfl ?_
  exact h
set_option maxRecDepth 20000 in
set_option maxHeartbeats 4000000 in
theorem w_X10_move_2 {c : rX} {d : Nat} {S : rS} {K : Option Value → rS → Prop} (ho : rOK c) (v1 : Int32) (v2 : Int32) (h : ((S.1 11 4) ≤ v2 → (∃ j2 : Nat, am_ix v1 j2 5 ∧ (rM c d eX10_moved [.int (S.1 10 4), .int v1] (rsi S 11 j2 (S.1 11 4)) (fun v S4 => ∃ z5 : Int32, v = some (.int z5) ∧ (∃ j6 : Nat, am_ix v1 j6 5 ∧ (K none (rsi S4 10 j6 z5))))))) ∧ (¬ (S.1 11 4) ≤ v2 → (∃ j8 : Nat, am_ix (256 + v2) j8 320 ∧ (∃ j10 : Nat, am_ix ((64 * v1) + v2) j10 320 ∧ (∃ j12 : Nat, am_ix (256 + v2) j12 320 ∧ (∃ j14 : Nat, am_ix ((64 * v1) + v2) j14 320 ∧ (∃ j16 : Nat, am_ix (256 + v2) j16 320 ∧ (∃ j18 : Nat, am_ix ((64 * v1) + v2) j18 320 ∧ (∃ j20 : Nat, am_ix (256 + v2) j20 320 ∧ (rM c d eX10_moved [.int (S.1 5 j20), .int v1] (rsi (rsi (rsi S 4 j10 (S.1 4 j8)) 8 j14 (S.1 8 j12)) 9 j18 (S.1 9 j16)) (fun v S22 => ∃ z23 : Int32, v = some (.int z23) ∧ (∃ j24 : Nat, am_ix ((64 * v1) + v2) j24 320 ∧ (∃ j26 : Nat, am_ix (256 + v2) j26 320 ∧ (rM c d eX10_moved [.int (S22.1 6 j26), .int v1] (rsi S22 5 j24 z23) (fun v S28 => ∃ z29 : Int32, v = some (.int z29) ∧ (∃ j30 : Nat, am_ix ((64 * v1) + v2) j30 320 ∧ (∃ j32 : Nat, am_ix (256 + v2) j32 320 ∧ (rM c d eX10_moved [.int (S28.1 7 j32), .int v1] (rsi S28 6 j30 z29) (fun v S34 => ∃ z35 : Int32, v = some (.int z35) ∧ (∃ j36 : Nat, am_ix ((64 * v1) + v2) j36 320 ∧ (rG c eX10_move (d + 1) (rQ c K) 2 [some (.ref c.2.2.1), some (.int v1), some (.int (v2 + 1)), none, none] [] (rsi S34 7 j36 z35)))))))))))))))))))))) : rG c eX10_move (d + 1) (rQ c K) 2 [some (.ref c.2.2.1), some (.int v1), some (.int v2), none, none] [] S := by
  refine ag_iload_n dX10_move_2 rfl ?_
  refine ag_aload_n dX10_move_3 rfl (Or.inr ⟨_, rfl⟩) ?_
  refine rr_get (v := .ref (c.2.2.1 + (8 + 1))) ho dX10_move_4 fw_10_38 rfl ?_
  refine ag_iconst (v := 4) dX10_move_7 rfl ?_
  refine rr_il (v := S.1 11 4) ho dX10_move_8 (k := 8) (f := 11) rfl ⟨by decide, by decide, by decide⟩ rfl ?_
  refine ag_icmp_ge (tgt := 122) dX10_move_9 rfl (fun hc1 => ?_) (fun hc1 => ?_)
  · have h := h.1 hc1
    refine ag_aload_n dX10_move_122 rfl (Or.inr ⟨_, rfl⟩) ?_
    refine rr_get (v := .ref (c.2.2.1 + (8 + 1))) ho dX10_move_123 fw_10_38 rfl ?_
    refine ag_iload_n dX10_move_126 rfl ?_
    refine ag_aload_n dX10_move_127 rfl (Or.inr ⟨_, rfl⟩) ?_
    refine rr_get (v := .ref (c.2.2.1 + (8 + 1))) ho dX10_move_128 fw_10_38 rfl ?_
    refine ag_iconst (v := 4) dX10_move_131 rfl ?_
    refine rr_il (v := S.1 11 4) ho dX10_move_132 (k := 8) (f := 11) rfl ⟨by decide, by decide, by decide⟩ rfl ?_
    obtain ⟨j2, hj3, h⟩ := h
    refine rr_is (S2 := (rsi S 11 j2 (S.1 11 4))) ho dX10_move_133 (k := 8) (f := 11) rfl hj3 rfl ?_
    refine ag_aload_n dX10_move_134 rfl (Or.inr ⟨_, rfl⟩) ?_
    refine rr_get (v := .ref (c.2.2.1 + (7 + 1))) ho dX10_move_135 fw_10_35 rfl ?_
    refine ag_iload_n dX10_move_138 rfl ?_
    refine ag_aload_n dX10_move_139 rfl (Or.inr ⟨_, rfl⟩) ?_
    refine rr_get (v := .ref (c.2.2.1 + (7 + 1))) ho dX10_move_140 fw_10_35 rfl ?_
    refine ag_iconst (v := 4) dX10_move_143 rfl ?_
    refine rr_il (v := S.1 10 4) ho dX10_move_144 (k := 7) (f := 10) rfl ⟨by decide, by decide, by decide⟩ rfl ?_
    refine ag_iload_n dX10_move_145 rfl ?_
    refine rr_calls (as := [.int (S.1 10 4), .int v1]) (rest := [.int v1, .ref (c.2.2.1 + (7 + 1))]) dX10_move_146 me_X10_moved ms_X10_moved lk_10_203 rfl rfl (Nat.le_of_ble_eq_true rfl) ?_
    refine rM.mono h ?_
    rintro v S4 ⟨z5, rfl, h⟩
    show rG _ _ _ _ _ _ [.int z5, .int v1, .ref (c.2.2.1 + (7 + 1))] _
    obtain ⟨j6, hj7, h⟩ := h
    refine rr_is (S2 := (rsi S4 10 j6 z5)) ho dX10_move_149 (k := 7) (f := 10) rfl hj7 rfl ?_
    exact ag_ret (v := none) dX10_move_150 rfl ⟨_, rfl, _, rfl, h⟩ rfl
  · have h := h.2 hc1
    refine ag_sipush (v := 256) dX10_move_12 (by decide) ?_
    refine ag_iload_n dX10_move_15 rfl ?_
    refine ag_iadd dX10_move_16 rfl ?_
    refine ag_istore_n (lv2 := [some (.ref c.2.2.1), some (.int v1), some (.int v2), some (.int (256 + v2)), none]) dX10_move_17 (Nat.le_of_ble_eq_true rfl) rfl ?_
    refine ag_bipush (v := 64) dX10_move_18 (by decide) ?_
    refine ag_iload_n dX10_move_20 rfl ?_
    refine ag_imul dX10_move_21 rfl ?_
    refine ag_iload_n dX10_move_22 rfl ?_
    refine ag_iadd dX10_move_23 rfl ?_
    refine ag_istore (lv2 := [some (.ref c.2.2.1), some (.int v1), some (.int v2), some (.int (256 + v2)), some (.int ((64 * v1) + v2))]) dX10_move_24 (Nat.le_of_ble_eq_true rfl) rfl ?_
    refine ag_aload_n dX10_move_26 rfl (Or.inr ⟨_, rfl⟩) ?_
    refine rr_get (v := .ref (c.2.2.1 + (1 + 1))) ho dX10_move_27 fw_10_17 rfl ?_
    refine ag_iload dX10_move_30 rfl ?_
    refine ag_aload_n dX10_move_32 rfl (Or.inr ⟨_, rfl⟩) ?_
    refine rr_get (v := .ref (c.2.2.1 + (1 + 1))) ho dX10_move_33 fw_10_17 rfl ?_
    refine ag_iload_n dX10_move_36 rfl ?_
    obtain ⟨j8, hj9, h⟩ := h
    refine rr_il (v := S.1 4 j8) ho dX10_move_37 (k := 1) (f := 4) rfl hj9 rfl ?_
    obtain ⟨j10, hj11, h⟩ := h
    refine rr_is (S2 := (rsi S 4 j10 (S.1 4 j8))) ho dX10_move_38 (k := 1) (f := 4) rfl hj11 rfl ?_
    refine ag_aload_n dX10_move_39 rfl (Or.inr ⟨_, rfl⟩) ?_
    refine rr_get (v := .ref (c.2.2.1 + (5 + 1))) ho dX10_move_40 fw_10_29 rfl ?_
    refine ag_iload dX10_move_43 rfl ?_
    refine ag_aload_n dX10_move_45 rfl (Or.inr ⟨_, rfl⟩) ?_
    refine rr_get (v := .ref (c.2.2.1 + (5 + 1))) ho dX10_move_46 fw_10_29 rfl ?_
    refine ag_iload_n dX10_move_49 rfl ?_
    obtain ⟨j12, hj13, h⟩ := h
    refine rr_il (v := S.1 8 j12) ho dX10_move_50 (k := 5) (f := 8) rfl hj13 rfl ?_
    obtain ⟨j14, hj15, h⟩ := h
    refine rr_is (S2 := (rsi (rsi S 4 j10 (S.1 4 j8)) 8 j14 (S.1 8 j12))) ho dX10_move_51 (k := 5) (f := 8) rfl hj15 rfl ?_
    refine ag_aload_n dX10_move_52 rfl (Or.inr ⟨_, rfl⟩) ?_
    refine rr_get (v := .ref (c.2.2.1 + (6 + 1))) ho dX10_move_53 fw_10_32 rfl ?_
    refine ag_iload dX10_move_56 rfl ?_
    refine ag_aload_n dX10_move_58 rfl (Or.inr ⟨_, rfl⟩) ?_
    refine rr_get (v := .ref (c.2.2.1 + (6 + 1))) ho dX10_move_59 fw_10_32 rfl ?_
    refine ag_iload_n dX10_move_62 rfl ?_
    obtain ⟨j16, hj17, h⟩ := h
    refine rr_il (v := S.1 9 j16) ho dX10_move_63 (k := 6) (f := 9) rfl hj17 rfl ?_
    obtain ⟨j18, hj19, h⟩ := h
    refine rr_is (S2 := (rsi (rsi (rsi S 4 j10 (S.1 4 j8)) 8 j14 (S.1 8 j12)) 9 j18 (S.1 9 j16))) ho dX10_move_64 (k := 6) (f := 9) rfl hj19 rfl ?_
    refine ag_aload_n dX10_move_65 rfl (Or.inr ⟨_, rfl⟩) ?_
    refine rr_get (v := .ref (c.2.2.1 + (2 + 1))) ho dX10_move_66 fw_10_20 rfl ?_
    refine ag_iload dX10_move_69 rfl ?_
    refine ag_aload_n dX10_move_71 rfl (Or.inr ⟨_, rfl⟩) ?_
    refine rr_get (v := .ref (c.2.2.1 + (2 + 1))) ho dX10_move_72 fw_10_20 rfl ?_
    refine ag_iload_n dX10_move_75 rfl ?_
    obtain ⟨j20, hj21, h⟩ := h
    refine rr_il (v := S.1 5 j20) ho dX10_move_76 (k := 2) (f := 5) rfl hj21 rfl ?_
    refine ag_iload_n dX10_move_77 rfl ?_
    refine rr_calls (as := [.int (S.1 5 j20), .int v1]) (rest := [.int ((64 * v1) + v2), .ref (c.2.2.1 + (2 + 1))]) dX10_move_78 me_X10_moved ms_X10_moved lk_10_203 rfl rfl (Nat.le_of_ble_eq_true rfl) ?_
    refine rM.mono h ?_
    rintro v S22 ⟨z23, rfl, h⟩
    show rG _ _ _ _ _ _ [.int z23, .int ((64 * v1) + v2), .ref (c.2.2.1 + (2 + 1))] _
    obtain ⟨j24, hj25, h⟩ := h
    refine rr_is (S2 := (rsi S22 5 j24 z23)) ho dX10_move_81 (k := 2) (f := 5) rfl hj25 rfl ?_
    refine ag_aload_n dX10_move_82 rfl (Or.inr ⟨_, rfl⟩) ?_
    refine rr_get (v := .ref (c.2.2.1 + (3 + 1))) ho dX10_move_83 fw_10_23 rfl ?_
    refine ag_iload dX10_move_86 rfl ?_
    refine ag_aload_n dX10_move_88 rfl (Or.inr ⟨_, rfl⟩) ?_
    refine rr_get (v := .ref (c.2.2.1 + (3 + 1))) ho dX10_move_89 fw_10_23 rfl ?_
    refine ag_iload_n dX10_move_92 rfl ?_
    obtain ⟨j26, hj27, h⟩ := h
    refine rr_il (v := S22.1 6 j26) ho dX10_move_93 (k := 3) (f := 6) rfl hj27 rfl ?_
    refine ag_iload_n dX10_move_94 rfl ?_
    refine rr_calls (as := [.int (S22.1 6 j26), .int v1]) (rest := [.int ((64 * v1) + v2), .ref (c.2.2.1 + (3 + 1))]) dX10_move_95 me_X10_moved ms_X10_moved lk_10_203 rfl rfl (Nat.le_of_ble_eq_true rfl) ?_
    refine rM.mono h ?_
    rintro v S28 ⟨z29, rfl, h⟩
    show rG _ _ _ _ _ _ [.int z29, .int ((64 * v1) + v2), .ref (c.2.2.1 + (3 + 1))] _
    obtain ⟨j30, hj31, h⟩ := h
    refine rr_is (S2 := (rsi S28 6 j30 z29)) ho dX10_move_98 (k := 3) (f := 6) rfl hj31 rfl ?_
    refine ag_aload_n dX10_move_99 rfl (Or.inr ⟨_, rfl⟩) ?_
    refine rr_get (v := .ref (c.2.2.1 + (4 + 1))) ho dX10_move_100 fw_10_26 rfl ?_
    refine ag_iload dX10_move_103 rfl ?_
    refine ag_aload_n dX10_move_105 rfl (Or.inr ⟨_, rfl⟩) ?_
    refine rr_get (v := .ref (c.2.2.1 + (4 + 1))) ho dX10_move_106 fw_10_26 rfl ?_
    refine ag_iload_n dX10_move_109 rfl ?_
    obtain ⟨j32, hj33, h⟩ := h
    refine rr_il (v := S28.1 7 j32) ho dX10_move_110 (k := 4) (f := 7) rfl hj33 rfl ?_
    refine ag_iload_n dX10_move_111 rfl ?_
    refine rr_calls (as := [.int (S28.1 7 j32), .int v1]) (rest := [.int ((64 * v1) + v2), .ref (c.2.2.1 + (4 + 1))]) dX10_move_112 me_X10_moved ms_X10_moved lk_10_203 rfl rfl (Nat.le_of_ble_eq_true rfl) ?_
    refine rM.mono h ?_
    rintro v S34 ⟨z35, rfl, h⟩
    show rG _ _ _ _ _ _ [.int z35, .int ((64 * v1) + v2), .ref (c.2.2.1 + (4 + 1))] _
    obtain ⟨j36, hj37, h⟩ := h
    refine rr_is (S2 := (rsi S34 7 j36 z35)) ho dX10_move_115 (k := 4) (f := 7) rfl hj37 rfl ?_
    refine ag_iinc (v2 := (v2 + 1)) (lv2 := [some (.ref c.2.2.1), some (.int v1), some (.int (v2 + 1)), some (.int (256 + v2)), some (.int ((64 * v1) + v2))]) dX10_move_116 rfl rfl rfl ?_
    refine ag_goto (tgt := 2) dX10_move_119 rfl ?_
    refine ag_drop 3 ?_
    refine ag_drop 4 ?_
    exact h
theorem dX10_moved_0 : decode cX10_moved 0 = .ok (.iload_n 0, 1) := by decide +kernel
theorem dX10_moved_1 : decode cX10_moved 1 = .ok (.iconst (-1), 1) := by decide +kernel
theorem dX10_moved_2 : decode cX10_moved 2 = .ok (.if_icmp .ne 7, 3) := by decide +kernel
theorem dX10_moved_5 : decode cX10_moved 5 = .ok (.iconst (-1), 1) := by decide +kernel
theorem dX10_moved_6 : decode cX10_moved 6 = .ok (.goto 12, 3) := by decide +kernel
theorem dX10_moved_9 : decode cX10_moved 9 = .ok (.iload_n 0, 1) := by decide +kernel
theorem dX10_moved_10 : decode cX10_moved 10 = .ok (.bipush 64, 2) := by decide +kernel
theorem dX10_moved_12 : decode cX10_moved 12 = .ok (.irem, 1) := by decide +kernel
theorem dX10_moved_13 : decode cX10_moved 13 = .ok (.bipush 64, 2) := by decide +kernel
theorem dX10_moved_15 : decode cX10_moved 15 = .ok (.iload_n 1, 1) := by decide +kernel
theorem dX10_moved_16 : decode cX10_moved 16 = .ok (.imul, 1) := by decide +kernel
theorem dX10_moved_17 : decode cX10_moved 17 = .ok (.iadd, 1) := by decide +kernel
theorem dX10_moved_18 : decode cX10_moved 18 = .ok (.ireturn, 1) := by decide +kernel
set_option maxRecDepth 20000 in
set_option maxHeartbeats 4000000 in
theorem w_X10_moved {c : rX} {d : Nat} {S : rS} {K : Option Value → rS → Prop} (ho : rOK c) (p0 : Int32) (p1 : Int32) (h : (¬ p0 = (-1) → (K (some (.int ((p0 - p0 / 64 * 64) + (64 * p1)))) S)) ∧ (p0 = (-1) → (K (some (.int (-1))) S))) : rM c d eX10_moved [.int p0, .int p1] S K := by
  refine rM.of (by decide) (Nat.le_of_ble_eq_true rfl) ?_
  show rG c eX10_moved d (rQ c K) 0 [some (.int p0), some (.int p1)] [] S
  refine ag_iload_n dX10_moved_0 rfl ?_
  refine ag_iconst (v := (-1)) dX10_moved_1 rfl ?_
  refine ag_icmp_ne (tgt := 9) dX10_moved_2 rfl (fun hc1 => ?_) (fun hc1 => ?_)
  · have h := h.1 hc1
    refine ag_iload_n dX10_moved_9 rfl ?_
    refine ag_bipush (v := 64) dX10_moved_10 (by decide) ?_
    refine ag_irem dX10_moved_12 (by decide) rfl ?_
    refine ag_bipush (v := 64) dX10_moved_13 (by decide) ?_
    refine ag_iload_n dX10_moved_15 rfl ?_
    refine ag_imul dX10_moved_16 rfl ?_
    refine ag_iadd dX10_moved_17 rfl ?_
    exact ag_ret (v := some (.int ((p0 - p0 / 64 * 64) + (64 * p1)))) dX10_moved_18 ⟨_, rfl, rfl⟩ ⟨_, rfl, _, rfl, h⟩ rfl
  · have h := h.2 hc1
    refine ag_iconst (v := (-1)) dX10_moved_5 rfl ?_
    refine ag_goto (tgt := 18) dX10_moved_6 rfl ?_
    exact ag_ret (v := some (.int (-1))) dX10_moved_18 ⟨_, rfl, rfl⟩ ⟨_, rfl, _, rfl, h⟩ rfl
theorem dX10_copy_0 : decode cX10_copy 0 = .ok (.iconst 0, 1) := by decide +kernel
theorem dX10_copy_1 : decode cX10_copy 1 = .ok (.istore 4, 2) := by decide +kernel
theorem dX10_copy_3 : decode cX10_copy 3 = .ok (.iload 4, 2) := by decide +kernel
theorem dX10_copy_5 : decode cX10_copy 5 = .ok (.iconst 5, 1) := by decide +kernel
theorem dX10_copy_6 : decode cX10_copy 6 = .ok (.if_icmp .ge 21, 3) := by decide +kernel
theorem dX10_copy_9 : decode cX10_copy 9 = .ok (.aload_n 2, 1) := by decide +kernel
theorem dX10_copy_10 : decode cX10_copy 10 = .ok (.iload_n 3, 1) := by decide +kernel
theorem dX10_copy_11 : decode cX10_copy 11 = .ok (.iload 4, 2) := by decide +kernel
theorem dX10_copy_13 : decode cX10_copy 13 = .ok (.iadd, 1) := by decide +kernel
theorem dX10_copy_14 : decode cX10_copy 14 = .ok (.aload_n 0, 1) := by decide +kernel
theorem dX10_copy_15 : decode cX10_copy 15 = .ok (.iload_n 1, 1) := by decide +kernel
theorem dX10_copy_16 : decode cX10_copy 16 = .ok (.iload 4, 2) := by decide +kernel
theorem dX10_copy_18 : decode cX10_copy 18 = .ok (.iadd, 1) := by decide +kernel
theorem dX10_copy_19 : decode cX10_copy 19 = .ok (.laload, 1) := by decide +kernel
theorem dX10_copy_20 : decode cX10_copy 20 = .ok (.lastore, 1) := by decide +kernel
theorem dX10_copy_21 : decode cX10_copy 21 = .ok (.iinc 4 1, 3) := by decide +kernel
theorem dX10_copy_24 : decode cX10_copy 24 = .ok (.goto (-21), 3) := by decide +kernel
theorem dX10_copy_27 : decode cX10_copy 27 = .ok (.return_, 1) := by decide +kernel
set_option maxRecDepth 20000 in
set_option maxHeartbeats 4000000 in
theorem w_X10_copy {c : rX} {d : Nat} {S : rS} {K : Option Value → rS → Prop} (ho : rOK c) {kp0 fp0 np0 : Nat} (hp0 : rT[kp0]? = some (fp0, 21, np0)) (p1 : Int32) {kp2 fp2 np2 : Nat} (hp2 : rT[kp2]? = some (fp2, 21, np2)) (p3 : Int32) (h : rG c eX10_copy d (rQ c K) 3 [some (.ref (c.2.2.1 + (kp0 + 1))), some (.int p1), some (.ref (c.2.2.1 + (kp2 + 1))), some (.int p3), some (.int 0)] [] S) : rM c d eX10_copy [.ref (c.2.2.1 + (kp0 + 1)), .int p1, .ref (c.2.2.1 + (kp2 + 1)), .int p3] S K := by
  refine rM.of (by decide) (Nat.le_of_ble_eq_true rfl) ?_
  show rG c eX10_copy d (rQ c K) 0 [some (.ref (c.2.2.1 + (kp0 + 1))), some (.int p1), some (.ref (c.2.2.1 + (kp2 + 1))), some (.int p3), none] [] S
  refine ag_iconst (v := 0) dX10_copy_0 rfl ?_
  refine ag_istore (lv2 := [some (.ref (c.2.2.1 + (kp0 + 1))), some (.int p1), some (.ref (c.2.2.1 + (kp2 + 1))), some (.int p3), some (.int 0)]) dX10_copy_1 (Nat.le_of_ble_eq_true rfl) rfl ?_
  exact h
set_option maxRecDepth 20000 in
set_option maxHeartbeats 4000000 in
theorem w_X10_copy_3 {c : rX} {d : Nat} {S : rS} {K : Option Value → rS → Prop} (ho : rOK c) {kp0 fp0 np0 : Nat} (hp0 : rT[kp0]? = some (fp0, 21, np0)) (v1 : Int32) {kp2 fp2 np2 : Nat} (hp2 : rT[kp2]? = some (fp2, 21, np2)) (v3 : Int32) (v4 : Int32) (h : (5 ≤ v4 → (K none S)) ∧ (¬ 5 ≤ v4 → (∃ j2 : Nat, am_ix (v1 + v4) j2 np0 ∧ (∃ j4 : Nat, am_ix (v3 + v4) j4 np2 ∧ (rG c eX10_copy d (rQ c K) 3 [some (.ref (c.2.2.1 + (kp0 + 1))), some (.int v1), some (.ref (c.2.2.1 + (kp2 + 1))), some (.int v3), some (.int (v4 + 1))] [] (rsj S fp2 j4 (S.2 fp0 j2))))))) : rG c eX10_copy d (rQ c K) 3 [some (.ref (c.2.2.1 + (kp0 + 1))), some (.int v1), some (.ref (c.2.2.1 + (kp2 + 1))), some (.int v3), some (.int v4)] [] S := by
  refine ag_iload dX10_copy_3 rfl ?_
  refine ag_iconst (v := 5) dX10_copy_5 rfl ?_
  refine ag_icmp_ge (tgt := 27) dX10_copy_6 rfl (fun hc1 => ?_) (fun hc1 => ?_)
  · have h := h.1 hc1
    exact ag_ret (v := none) dX10_copy_27 rfl ⟨_, rfl, _, rfl, h⟩ rfl
  · have h := h.2 hc1
    refine ag_aload_n dX10_copy_9 rfl (Or.inr ⟨_, rfl⟩) ?_
    refine ag_iload_n dX10_copy_10 rfl ?_
    refine ag_iload dX10_copy_11 rfl ?_
    refine ag_iadd dX10_copy_13 rfl ?_
    refine ag_aload_n dX10_copy_14 rfl (Or.inr ⟨_, rfl⟩) ?_
    refine ag_iload_n dX10_copy_15 rfl ?_
    refine ag_iload dX10_copy_16 rfl ?_
    refine ag_iadd dX10_copy_18 rfl ?_
    obtain ⟨j2, hj3, h⟩ := h
    refine rr_ll (v := S.2 fp0 j2) ho dX10_copy_19 hp0 hj3 rfl ?_
    obtain ⟨j4, hj5, h⟩ := h
    refine rr_ls (S2 := (rsj S fp2 j4 (S.2 fp0 j2))) ho dX10_copy_20 hp2 hj5 rfl ?_
    refine ag_iinc (v2 := (v4 + 1)) (lv2 := [some (.ref (c.2.2.1 + (kp0 + 1))), some (.int v1), some (.ref (c.2.2.1 + (kp2 + 1))), some (.int v3), some (.int (v4 + 1))]) dX10_copy_21 rfl rfl rfl ?_
    refine ag_goto (tgt := 3) dX10_copy_24 rfl ?_
    exact h
theorem dX10_clear_0 : decode cX10_clear 0 = .ok (.iconst 0, 1) := by decide +kernel
theorem dX10_clear_1 : decode cX10_clear 1 = .ok (.istore_n 2, 1) := by decide +kernel
theorem dX10_clear_2 : decode cX10_clear 2 = .ok (.iload_n 2, 1) := by decide +kernel
theorem dX10_clear_3 : decode cX10_clear 3 = .ok (.iconst 5, 1) := by decide +kernel
theorem dX10_clear_4 : decode cX10_clear 4 = .ok (.if_icmp .ge 15, 3) := by decide +kernel
theorem dX10_clear_7 : decode cX10_clear 7 = .ok (.aload_n 0, 1) := by decide +kernel
theorem dX10_clear_8 : decode cX10_clear 8 = .ok (.iload_n 1, 1) := by decide +kernel
theorem dX10_clear_9 : decode cX10_clear 9 = .ok (.iload_n 2, 1) := by decide +kernel
theorem dX10_clear_10 : decode cX10_clear 10 = .ok (.iadd, 1) := by decide +kernel
theorem dX10_clear_11 : decode cX10_clear 11 = .ok (.lconst 0, 1) := by decide +kernel
theorem dX10_clear_12 : decode cX10_clear 12 = .ok (.lastore, 1) := by decide +kernel
theorem dX10_clear_13 : decode cX10_clear 13 = .ok (.iinc 2 1, 3) := by decide +kernel
theorem dX10_clear_16 : decode cX10_clear 16 = .ok (.goto (-14), 3) := by decide +kernel
theorem dX10_clear_19 : decode cX10_clear 19 = .ok (.return_, 1) := by decide +kernel
set_option maxRecDepth 20000 in
set_option maxHeartbeats 4000000 in
theorem w_X10_clear {c : rX} {d : Nat} {S : rS} {K : Option Value → rS → Prop} (ho : rOK c) {kp0 fp0 np0 : Nat} (hp0 : rT[kp0]? = some (fp0, 21, np0)) (p1 : Int32) (h : rG c eX10_clear d (rQ c K) 2 [some (.ref (c.2.2.1 + (kp0 + 1))), some (.int p1), some (.int 0)] [] S) : rM c d eX10_clear [.ref (c.2.2.1 + (kp0 + 1)), .int p1] S K := by
  refine rM.of (by decide) (Nat.le_of_ble_eq_true rfl) ?_
  show rG c eX10_clear d (rQ c K) 0 [some (.ref (c.2.2.1 + (kp0 + 1))), some (.int p1), none] [] S
  refine ag_iconst (v := 0) dX10_clear_0 rfl ?_
  refine ag_istore_n (lv2 := [some (.ref (c.2.2.1 + (kp0 + 1))), some (.int p1), some (.int 0)]) dX10_clear_1 (Nat.le_of_ble_eq_true rfl) rfl ?_
  exact h
set_option maxRecDepth 20000 in
set_option maxHeartbeats 4000000 in
theorem w_X10_clear_2 {c : rX} {d : Nat} {S : rS} {K : Option Value → rS → Prop} (ho : rOK c) {kp0 fp0 np0 : Nat} (hp0 : rT[kp0]? = some (fp0, 21, np0)) (v1 : Int32) (v2 : Int32) (h : (5 ≤ v2 → (K none S)) ∧ (¬ 5 ≤ v2 → (∃ j2 : Nat, am_ix (v1 + v2) j2 np0 ∧ (rG c eX10_clear d (rQ c K) 2 [some (.ref (c.2.2.1 + (kp0 + 1))), some (.int v1), some (.int (v2 + 1))] [] (rsj S fp0 j2 0))))) : rG c eX10_clear d (rQ c K) 2 [some (.ref (c.2.2.1 + (kp0 + 1))), some (.int v1), some (.int v2)] [] S := by
  refine ag_iload_n dX10_clear_2 rfl ?_
  refine ag_iconst (v := 5) dX10_clear_3 rfl ?_
  refine ag_icmp_ge (tgt := 19) dX10_clear_4 rfl (fun hc1 => ?_) (fun hc1 => ?_)
  · have h := h.1 hc1
    exact ag_ret (v := none) dX10_clear_19 rfl ⟨_, rfl, _, rfl, h⟩ rfl
  · have h := h.2 hc1
    refine ag_aload_n dX10_clear_7 rfl (Or.inr ⟨_, rfl⟩) ?_
    refine ag_iload_n dX10_clear_8 rfl ?_
    refine ag_iload_n dX10_clear_9 rfl ?_
    refine ag_iadd dX10_clear_10 rfl ?_
    refine ag_lconst (v := 0) dX10_clear_11 (by decide) ?_
    obtain ⟨j2, hj3, h⟩ := h
    refine rr_ls (S2 := (rsj S fp0 j2 0)) ho dX10_clear_12 hp0 hj3 rfl ?_
    refine ag_iinc (v2 := (v2 + 1)) (lv2 := [some (.ref (c.2.2.1 + (kp0 + 1))), some (.int v1), some (.int (v2 + 1))]) dX10_clear_13 rfl rfl rfl ?_
    refine ag_goto (tgt := 2) dX10_clear_16 rfl ?_
    exact h
theorem dX10_isImpossible_0 : decode cX10_isImpossible 0 = .ok (.aload_n 0, 1) := by decide +kernel
theorem dX10_isImpossible_1 : decode cX10_isImpossible 1 = .ok (.iload_n 1, 1) := by decide +kernel
theorem dX10_isImpossible_2 : decode cX10_isImpossible 2 = .ok (.laload, 1) := by decide +kernel
theorem dX10_isImpossible_3 : decode cX10_isImpossible 3 = .ok (.aload_n 0, 1) := by decide +kernel
theorem dX10_isImpossible_4 : decode cX10_isImpossible 4 = .ok (.iload_n 1, 1) := by decide +kernel
theorem dX10_isImpossible_5 : decode cX10_isImpossible 5 = .ok (.iconst 1, 1) := by decide +kernel
theorem dX10_isImpossible_6 : decode cX10_isImpossible 6 = .ok (.iadd, 1) := by decide +kernel
theorem dX10_isImpossible_7 : decode cX10_isImpossible 7 = .ok (.laload, 1) := by decide +kernel
theorem dX10_isImpossible_8 : decode cX10_isImpossible 8 = .ok (.lor, 1) := by decide +kernel
theorem dX10_isImpossible_9 : decode cX10_isImpossible 9 = .ok (.aload_n 0, 1) := by decide +kernel
theorem dX10_isImpossible_10 : decode cX10_isImpossible 10 = .ok (.iload_n 1, 1) := by decide +kernel
theorem dX10_isImpossible_11 : decode cX10_isImpossible 11 = .ok (.iconst 2, 1) := by decide +kernel
theorem dX10_isImpossible_12 : decode cX10_isImpossible 12 = .ok (.iadd, 1) := by decide +kernel
theorem dX10_isImpossible_13 : decode cX10_isImpossible 13 = .ok (.laload, 1) := by decide +kernel
theorem dX10_isImpossible_14 : decode cX10_isImpossible 14 = .ok (.lor, 1) := by decide +kernel
theorem dX10_isImpossible_15 : decode cX10_isImpossible 15 = .ok (.aload_n 0, 1) := by decide +kernel
theorem dX10_isImpossible_16 : decode cX10_isImpossible 16 = .ok (.iload_n 1, 1) := by decide +kernel
theorem dX10_isImpossible_17 : decode cX10_isImpossible 17 = .ok (.iconst 3, 1) := by decide +kernel
theorem dX10_isImpossible_18 : decode cX10_isImpossible 18 = .ok (.iadd, 1) := by decide +kernel
theorem dX10_isImpossible_19 : decode cX10_isImpossible 19 = .ok (.laload, 1) := by decide +kernel
theorem dX10_isImpossible_20 : decode cX10_isImpossible 20 = .ok (.lor, 1) := by decide +kernel
theorem dX10_isImpossible_21 : decode cX10_isImpossible 21 = .ok (.aload_n 0, 1) := by decide +kernel
theorem dX10_isImpossible_22 : decode cX10_isImpossible 22 = .ok (.iload_n 1, 1) := by decide +kernel
theorem dX10_isImpossible_23 : decode cX10_isImpossible 23 = .ok (.iconst 4, 1) := by decide +kernel
theorem dX10_isImpossible_24 : decode cX10_isImpossible 24 = .ok (.iadd, 1) := by decide +kernel
theorem dX10_isImpossible_25 : decode cX10_isImpossible 25 = .ok (.laload, 1) := by decide +kernel
theorem dX10_isImpossible_26 : decode cX10_isImpossible 26 = .ok (.lor, 1) := by decide +kernel
theorem dX10_isImpossible_27 : decode cX10_isImpossible 27 = .ok (.ldc2_w 207, 3) := by decide +kernel
theorem dX10_isImpossible_30 : decode cX10_isImpossible 30 = .ok (.lcmp, 1) := by decide +kernel
theorem dX10_isImpossible_31 : decode cX10_isImpossible 31 = .ok (.ifCond .eq 7, 3) := by decide +kernel
theorem dX10_isImpossible_34 : decode cX10_isImpossible 34 = .ok (.iconst 1, 1) := by decide +kernel
theorem dX10_isImpossible_35 : decode cX10_isImpossible 35 = .ok (.goto 4, 3) := by decide +kernel
theorem dX10_isImpossible_38 : decode cX10_isImpossible 38 = .ok (.iconst 0, 1) := by decide +kernel
theorem dX10_isImpossible_39 : decode cX10_isImpossible 39 = .ok (.ireturn, 1) := by decide +kernel
set_option maxRecDepth 20000 in
set_option maxHeartbeats 4000000 in
theorem w_X10_isImpossible {c : rX} {d : Nat} {S : rS} {K : Option Value → rS → Prop} (ho : rOK c) {kp0 fp0 np0 : Nat} (hp0 : rT[kp0]? = some (fp0, 21, np0)) (p1 : Int32) (h : ∃ j1 : Nat, am_ix p1 j1 np0 ∧ (∃ j3 : Nat, am_ix (p1 + 1) j3 np0 ∧ (∃ j5 : Nat, am_ix (p1 + 2) j5 np0 ∧ (∃ j7 : Nat, am_ix (p1 + 3) j7 np0 ∧ (∃ j9 : Nat, am_ix (p1 + 4) j9 np0 ∧ (((lg_cmp (((((S.2 fp0 j1) ||| (S.2 fp0 j3)) ||| (S.2 fp0 j5)) ||| (S.2 fp0 j7)) ||| (S.2 fp0 j9)) 72057594037927935) = 0 → (K (some (.int 0)) S)) ∧ (¬ (lg_cmp (((((S.2 fp0 j1) ||| (S.2 fp0 j3)) ||| (S.2 fp0 j5)) ||| (S.2 fp0 j7)) ||| (S.2 fp0 j9)) 72057594037927935) = 0 → (K (some (.int 1)) S)))))))) : rM c d eX10_isImpossible [.ref (c.2.2.1 + (kp0 + 1)), .int p1] S K := by
  refine rM.of (by decide) (Nat.le_of_ble_eq_true rfl) ?_
  show rG c eX10_isImpossible d (rQ c K) 0 [some (.ref (c.2.2.1 + (kp0 + 1))), some (.int p1)] [] S
  refine ag_aload_n dX10_isImpossible_0 rfl (Or.inr ⟨_, rfl⟩) ?_
  refine ag_iload_n dX10_isImpossible_1 rfl ?_
  obtain ⟨j1, hj2, h⟩ := h
  refine rr_ll (v := S.2 fp0 j1) ho dX10_isImpossible_2 hp0 hj2 rfl ?_
  refine ag_aload_n dX10_isImpossible_3 rfl (Or.inr ⟨_, rfl⟩) ?_
  refine ag_iload_n dX10_isImpossible_4 rfl ?_
  refine ag_iconst (v := 1) dX10_isImpossible_5 rfl ?_
  refine ag_iadd dX10_isImpossible_6 rfl ?_
  obtain ⟨j3, hj4, h⟩ := h
  refine rr_ll (v := S.2 fp0 j3) ho dX10_isImpossible_7 hp0 hj4 rfl ?_
  refine ag_lor dX10_isImpossible_8 rfl ?_
  refine ag_aload_n dX10_isImpossible_9 rfl (Or.inr ⟨_, rfl⟩) ?_
  refine ag_iload_n dX10_isImpossible_10 rfl ?_
  refine ag_iconst (v := 2) dX10_isImpossible_11 rfl ?_
  refine ag_iadd dX10_isImpossible_12 rfl ?_
  obtain ⟨j5, hj6, h⟩ := h
  refine rr_ll (v := S.2 fp0 j5) ho dX10_isImpossible_13 hp0 hj6 rfl ?_
  refine ag_lor dX10_isImpossible_14 rfl ?_
  refine ag_aload_n dX10_isImpossible_15 rfl (Or.inr ⟨_, rfl⟩) ?_
  refine ag_iload_n dX10_isImpossible_16 rfl ?_
  refine ag_iconst (v := 3) dX10_isImpossible_17 rfl ?_
  refine ag_iadd dX10_isImpossible_18 rfl ?_
  obtain ⟨j7, hj8, h⟩ := h
  refine rr_ll (v := S.2 fp0 j7) ho dX10_isImpossible_19 hp0 hj8 rfl ?_
  refine ag_lor dX10_isImpossible_20 rfl ?_
  refine ag_aload_n dX10_isImpossible_21 rfl (Or.inr ⟨_, rfl⟩) ?_
  refine ag_iload_n dX10_isImpossible_22 rfl ?_
  refine ag_iconst (v := 4) dX10_isImpossible_23 rfl ?_
  refine ag_iadd dX10_isImpossible_24 rfl ?_
  obtain ⟨j9, hj10, h⟩ := h
  refine rr_ll (v := S.2 fp0 j9) ho dX10_isImpossible_25 hp0 hj10 rfl ?_
  refine ag_lor dX10_isImpossible_26 rfl ?_
  refine ag_ldc2 dX10_isImpossible_27 kl_10_207 ?_
  refine ag_lcmp dX10_isImpossible_30 rfl ?_
  refine ag_if_eq (tgt := 38) dX10_isImpossible_31 rfl (fun hc11 => ?_) (fun hc11 => ?_)
  · have h := h.1 hc11
    refine ag_iconst (v := 0) dX10_isImpossible_38 rfl ?_
    exact ag_ret (v := some (.int 0)) dX10_isImpossible_39 ⟨_, rfl, rB_n (Or.inl rfl)⟩ ⟨_, rfl, _, rfl, h⟩ rfl
  · have h := h.2 hc11
    refine ag_iconst (v := 1) dX10_isImpossible_34 rfl ?_
    refine ag_goto (tgt := 39) dX10_isImpossible_35 rfl ?_
    exact ag_ret (v := some (.int 1)) dX10_isImpossible_39 ⟨_, rfl, rB_n (Or.inr rfl)⟩ ⟨_, rfl, _, rfl, h⟩ rfl
