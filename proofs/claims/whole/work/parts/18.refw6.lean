theorem dX10_cell_0 : decode cX10_cell 0 = .ok (.aload_n 0, 1) := by decide +kernel
theorem dX10_cell_1 : decode cX10_cell 1 = .ok (.iload_n 1, 1) := by decide +kernel
theorem dX10_cell_2 : decode cX10_cell 2 = .ok (.ifCond .lt 11, 3) := by decide +kernel
theorem dX10_cell_5 : decode cX10_cell 5 = .ok (.iload_n 1, 1) := by decide +kernel
theorem dX10_cell_6 : decode cX10_cell 6 = .ok (.aload_n 0, 1) := by decide +kernel
theorem dX10_cell_7 : decode cX10_cell 7 = .ok (.getfield 103, 3) := by decide +kernel
theorem dX10_cell_10 : decode cX10_cell 10 = .ok (.if_icmp .lt 7, 3) := by decide +kernel
theorem dX10_cell_13 : decode cX10_cell 13 = .ok (.iconst 1, 1) := by decide +kernel
theorem dX10_cell_14 : decode cX10_cell 14 = .ok (.goto 17, 3) := by decide +kernel
theorem dX10_cell_17 : decode cX10_cell 17 = .ok (.iload_n 2, 1) := by decide +kernel
theorem dX10_cell_18 : decode cX10_cell 18 = .ok (.ifCond .lt 8, 3) := by decide +kernel
theorem dX10_cell_21 : decode cX10_cell 21 = .ok (.iload_n 2, 1) := by decide +kernel
theorem dX10_cell_22 : decode cX10_cell 22 = .ok (.iconst 3, 1) := by decide +kernel
theorem dX10_cell_23 : decode cX10_cell 23 = .ok (.if_icmp .le 7, 3) := by decide +kernel
theorem dX10_cell_26 : decode cX10_cell 26 = .ok (.iconst 2, 1) := by decide +kernel
theorem dX10_cell_27 : decode cX10_cell 27 = .ok (.goto 4, 3) := by decide +kernel
theorem dX10_cell_30 : decode cX10_cell 30 = .ok (.iconst 0, 1) := by decide +kernel
theorem dX10_cell_31 : decode cX10_cell 31 = .ok (.putfield 148, 3) := by decide +kernel
theorem dX10_cell_34 : decode cX10_cell 34 = .ok (.aload_n 0, 1) := by decide +kernel
theorem dX10_cell_35 : decode cX10_cell 35 = .ok (.getfield 148, 3) := by decide +kernel
theorem dX10_cell_38 : decode cX10_cell 38 = .ok (.ifCond .le 5, 3) := by decide +kernel
theorem dX10_cell_41 : decode cX10_cell 41 = .ok (.iconst 0, 1) := by decide +kernel
theorem dX10_cell_42 : decode cX10_cell 42 = .ok (.ireturn, 1) := by decide +kernel
theorem dX10_cell_43 : decode cX10_cell 43 = .ok (.iload_n 2, 1) := by decide +kernel
theorem dX10_cell_44 : decode cX10_cell 44 = .ok (.ifCond .ne 12, 3) := by decide +kernel
theorem dX10_cell_47 : decode cX10_cell 47 = .ok (.aload_n 0, 1) := by decide +kernel
theorem dX10_cell_48 : decode cX10_cell 48 = .ok (.getfield 106, 3) := by decide +kernel
theorem dX10_cell_51 : decode cX10_cell 51 = .ok (.iload_n 1, 1) := by decide +kernel
theorem dX10_cell_52 : decode cX10_cell 52 = .ok (.iaload, 1) := by decide +kernel
theorem dX10_cell_53 : decode cX10_cell 53 = .ok (.goto 37, 3) := by decide +kernel
theorem dX10_cell_56 : decode cX10_cell 56 = .ok (.iload_n 2, 1) := by decide +kernel
theorem dX10_cell_57 : decode cX10_cell 57 = .ok (.iconst 1, 1) := by decide +kernel
theorem dX10_cell_58 : decode cX10_cell 58 = .ok (.if_icmp .ne 12, 3) := by decide +kernel
theorem dX10_cell_61 : decode cX10_cell 61 = .ok (.aload_n 0, 1) := by decide +kernel
theorem dX10_cell_62 : decode cX10_cell 62 = .ok (.getfield 109, 3) := by decide +kernel
theorem dX10_cell_65 : decode cX10_cell 65 = .ok (.iload_n 1, 1) := by decide +kernel
theorem dX10_cell_66 : decode cX10_cell 66 = .ok (.iaload, 1) := by decide +kernel
theorem dX10_cell_67 : decode cX10_cell 67 = .ok (.goto 23, 3) := by decide +kernel
theorem dX10_cell_70 : decode cX10_cell 70 = .ok (.iload_n 2, 1) := by decide +kernel
theorem dX10_cell_71 : decode cX10_cell 71 = .ok (.iconst 2, 1) := by decide +kernel
theorem dX10_cell_72 : decode cX10_cell 72 = .ok (.if_icmp .ne 12, 3) := by decide +kernel
theorem dX10_cell_75 : decode cX10_cell 75 = .ok (.aload_n 0, 1) := by decide +kernel
theorem dX10_cell_76 : decode cX10_cell 76 = .ok (.getfield 112, 3) := by decide +kernel
theorem dX10_cell_79 : decode cX10_cell 79 = .ok (.iload_n 1, 1) := by decide +kernel
theorem dX10_cell_80 : decode cX10_cell 80 = .ok (.iaload, 1) := by decide +kernel
theorem dX10_cell_81 : decode cX10_cell 81 = .ok (.goto 9, 3) := by decide +kernel
theorem dX10_cell_84 : decode cX10_cell 84 = .ok (.aload_n 0, 1) := by decide +kernel
theorem dX10_cell_85 : decode cX10_cell 85 = .ok (.getfield 115, 3) := by decide +kernel
theorem dX10_cell_88 : decode cX10_cell 88 = .ok (.iload_n 1, 1) := by decide +kernel
theorem dX10_cell_89 : decode cX10_cell 89 = .ok (.iaload, 1) := by decide +kernel
theorem dX10_cell_90 : decode cX10_cell 90 = .ok (.ireturn, 1) := by decide +kernel
set_option maxRecDepth 20000 in
set_option maxHeartbeats 4000000 in
theorem w_X10_cell {c : rX} {d : Nat} {S : rS} {K : Option Value → rS → Prop} (ho : rOK c) (p0 : Int32) (p1 : Int32) (h : (p0 < 0 → (rG c eX10_cell d (rQ c K) 31 [some (.ref c.2.2.1), some (.int p0), some (.int p1)] [.int 1, .ref c.2.2.1] S)) ∧ (¬ p0 < 0 → ((p0 < (S.1 40 0) → ((p1 < 0 → (rG c eX10_cell d (rQ c K) 31 [some (.ref c.2.2.1), some (.int p0), some (.int p1)] [.int 2, .ref c.2.2.1] S)) ∧ (¬ p1 < 0 → ((p1 ≤ 3 → (rG c eX10_cell d (rQ c K) 31 [some (.ref c.2.2.1), some (.int p0), some (.int p1)] [.int 0, .ref c.2.2.1] S)) ∧ (¬ p1 ≤ 3 → (rG c eX10_cell d (rQ c K) 31 [some (.ref c.2.2.1), some (.int p0), some (.int p1)] [.int 2, .ref c.2.2.1] S)))))) ∧ (¬ p0 < (S.1 40 0) → (rG c eX10_cell d (rQ c K) 31 [some (.ref c.2.2.1), some (.int p0), some (.int p1)] [.int 1, .ref c.2.2.1] S))))) : rM c d eX10_cell [.ref c.2.2.1, .int p0, .int p1] S K := by
  refine rM.of (by decide) (Nat.le_of_ble_eq_true rfl) ?_
  show rG c eX10_cell d (rQ c K) 0 [some (.ref c.2.2.1), some (.int p0), some (.int p1)] [] S
  refine ag_aload_n dX10_cell_0 rfl (Or.inr ⟨_, rfl⟩) ?_
  refine ag_iload_n dX10_cell_1 rfl ?_
  refine ag_if_lt (tgt := 13) dX10_cell_2 rfl (fun hc1 => ?_) (fun hc1 => ?_)
  · have h := h.1 hc1
    refine ag_iconst (v := 1) dX10_cell_13 rfl ?_
    refine ag_goto (tgt := 31) dX10_cell_14 rfl ?_
    exact h
  · have h := h.2 hc1
    refine ag_iload_n dX10_cell_5 rfl ?_
    refine ag_aload_n dX10_cell_6 rfl (Or.inr ⟨_, rfl⟩) ?_
    refine rr_get (v := .int (S.1 40 0)) ho dX10_cell_7 fw_10_103 rfl ?_
    refine ag_icmp_lt (tgt := 17) dX10_cell_10 rfl (fun hc2 => ?_) (fun hc2 => ?_)
    · have h := h.1 hc2
      refine ag_iload_n dX10_cell_17 rfl ?_
      refine ag_if_lt (tgt := 26) dX10_cell_18 rfl (fun hc3 => ?_) (fun hc3 => ?_)
      · have h := h.1 hc3
        refine ag_iconst (v := 2) dX10_cell_26 rfl ?_
        refine ag_goto (tgt := 31) dX10_cell_27 rfl ?_
        exact h
      · have h := h.2 hc3
        refine ag_iload_n dX10_cell_21 rfl ?_
        refine ag_iconst (v := 3) dX10_cell_22 rfl ?_
        refine ag_icmp_le (tgt := 30) dX10_cell_23 rfl (fun hc4 => ?_) (fun hc4 => ?_)
        · have h := h.1 hc4
          refine ag_iconst (v := 0) dX10_cell_30 rfl ?_
          exact h
        · have h := h.2 hc4
          refine ag_iconst (v := 2) dX10_cell_26 rfl ?_
          refine ag_goto (tgt := 31) dX10_cell_27 rfl ?_
          exact h
    · have h := h.2 hc2
      refine ag_iconst (v := 1) dX10_cell_13 rfl ?_
      refine ag_goto (tgt := 31) dX10_cell_14 rfl ?_
      exact h
set_option maxRecDepth 20000 in
set_option maxHeartbeats 4000000 in
theorem w_X10_cell_31 {c : rX} {d : Nat} {S : rS} {K : Option Value → rS → Prop} (ho : rOK c) (v1 : Int32) (v2 : Int32) (s0 : Int32) (h : (s0 ≤ 0 → ((¬ v2 = 0 → ((¬ v2 = 1 → ((¬ v2 = 2 → (∃ j5 : Nat, am_ix v1 j5 64 ∧ (K (some (.int (S.1 44 j5))) (rsi S 0 0 s0)))) ∧ (v2 = 2 → (∃ j7 : Nat, am_ix v1 j7 64 ∧ (K (some (.int (S.1 43 j7))) (rsi S 0 0 s0)))))) ∧ (v2 = 1 → (∃ j9 : Nat, am_ix v1 j9 64 ∧ (K (some (.int (S.1 42 j9))) (rsi S 0 0 s0)))))) ∧ (v2 = 0 → (∃ j11 : Nat, am_ix v1 j11 64 ∧ (K (some (.int (S.1 41 j11))) (rsi S 0 0 s0)))))) ∧ (¬ s0 ≤ 0 → (K (some (.int 0)) (rsi S 0 0 s0)))) : rG c eX10_cell d (rQ c K) 31 [some (.ref c.2.2.1), some (.int v1), some (.int v2)] [.int s0, .ref c.2.2.1] S := by
  refine rr_put (S2 := (rsi S 0 0 s0)) ho dX10_cell_31 pw_10_148 rfl (fun _ => ⟨rfl, rfl⟩) rfl ?_
  refine ag_aload_n dX10_cell_34 rfl (Or.inr ⟨_, rfl⟩) ?_
  refine rr_get (v := .int s0) ho dX10_cell_35 fw_10_148 rfl ?_
  refine ag_if_le (tgt := 43) dX10_cell_38 rfl (fun hc1 => ?_) (fun hc1 => ?_)
  · have h := h.1 hc1
    refine ag_iload_n dX10_cell_43 rfl ?_
    refine ag_if_ne (tgt := 56) dX10_cell_44 rfl (fun hc2 => ?_) (fun hc2 => ?_)
    · have h := h.1 hc2
      refine ag_iload_n dX10_cell_56 rfl ?_
      refine ag_iconst (v := 1) dX10_cell_57 rfl ?_
      refine ag_icmp_ne (tgt := 70) dX10_cell_58 rfl (fun hc3 => ?_) (fun hc3 => ?_)
      · have h := h.1 hc3
        refine ag_iload_n dX10_cell_70 rfl ?_
        refine ag_iconst (v := 2) dX10_cell_71 rfl ?_
        refine ag_icmp_ne (tgt := 84) dX10_cell_72 rfl (fun hc4 => ?_) (fun hc4 => ?_)
        · have h := h.1 hc4
          refine ag_aload_n dX10_cell_84 rfl (Or.inr ⟨_, rfl⟩) ?_
          refine rr_get (v := .ref (c.2.2.1 + (32 + 1))) ho dX10_cell_85 fw_10_115 rfl ?_
          refine ag_iload_n dX10_cell_88 rfl ?_
          obtain ⟨j5, hj6, h⟩ := h
          refine rr_il (v := S.1 44 j5) ho dX10_cell_89 (k := 32) (f := 44) rfl hj6 rfl ?_
          exact ag_ret (v := some (.int (S.1 44 j5))) dX10_cell_90 ⟨_, rfl, rfl⟩ ⟨_, rfl, _, rfl, h⟩ rfl
        · have h := h.2 hc4
          refine ag_aload_n dX10_cell_75 rfl (Or.inr ⟨_, rfl⟩) ?_
          refine rr_get (v := .ref (c.2.2.1 + (31 + 1))) ho dX10_cell_76 fw_10_112 rfl ?_
          refine ag_iload_n dX10_cell_79 rfl ?_
          obtain ⟨j7, hj8, h⟩ := h
          refine rr_il (v := S.1 43 j7) ho dX10_cell_80 (k := 31) (f := 43) rfl hj8 rfl ?_
          refine ag_goto (tgt := 90) dX10_cell_81 rfl ?_
          exact ag_ret (v := some (.int (S.1 43 j7))) dX10_cell_90 ⟨_, rfl, rfl⟩ ⟨_, rfl, _, rfl, h⟩ rfl
      · have h := h.2 hc3
        refine ag_aload_n dX10_cell_61 rfl (Or.inr ⟨_, rfl⟩) ?_
        refine rr_get (v := .ref (c.2.2.1 + (30 + 1))) ho dX10_cell_62 fw_10_109 rfl ?_
        refine ag_iload_n dX10_cell_65 rfl ?_
        obtain ⟨j9, hj10, h⟩ := h
        refine rr_il (v := S.1 42 j9) ho dX10_cell_66 (k := 30) (f := 42) rfl hj10 rfl ?_
        refine ag_goto (tgt := 90) dX10_cell_67 rfl ?_
        exact ag_ret (v := some (.int (S.1 42 j9))) dX10_cell_90 ⟨_, rfl, rfl⟩ ⟨_, rfl, _, rfl, h⟩ rfl
    · have h := h.2 hc2
      refine ag_aload_n dX10_cell_47 rfl (Or.inr ⟨_, rfl⟩) ?_
      refine rr_get (v := .ref (c.2.2.1 + (29 + 1))) ho dX10_cell_48 fw_10_106 rfl ?_
      refine ag_iload_n dX10_cell_51 rfl ?_
      obtain ⟨j11, hj12, h⟩ := h
      refine rr_il (v := S.1 41 j11) ho dX10_cell_52 (k := 29) (f := 41) rfl hj12 rfl ?_
      refine ag_goto (tgt := 90) dX10_cell_53 rfl ?_
      exact ag_ret (v := some (.int (S.1 41 j11))) dX10_cell_90 ⟨_, rfl, rfl⟩ ⟨_, rfl, _, rfl, h⟩ rfl
  · have h := h.2 hc1
    refine ag_iconst (v := 0) dX10_cell_41 rfl ?_
    exact ag_ret (v := some (.int 0)) dX10_cell_42 ⟨_, rfl, rfl⟩ ⟨_, rfl, _, rfl, h⟩ rfl
