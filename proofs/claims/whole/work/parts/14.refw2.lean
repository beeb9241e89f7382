theorem dX10_restrict_0 : decode cX10_restrict 0 = .ok (.iconst 0, 1) := by decide +kernel
theorem dX10_restrict_1 : decode cX10_restrict 1 = .ok (.istore 4, 2) := by decide +kernel
theorem dX10_restrict_3 : decode cX10_restrict 3 = .ok (.iload 4, 2) := by decide +kernel
theorem dX10_restrict_5 : decode cX10_restrict 5 = .ok (.iconst 5, 1) := by decide +kernel
theorem dX10_restrict_6 : decode cX10_restrict 6 = .ok (.if_icmp .ge 34, 3) := by decide +kernel
theorem dX10_restrict_9 : decode cX10_restrict 9 = .ok (.iload_n 3, 1) := by decide +kernel
theorem dX10_restrict_10 : decode cX10_restrict 10 = .ok (.iload 4, 2) := by decide +kernel
theorem dX10_restrict_12 : decode cX10_restrict 12 = .ok (.ishr, 1) := by decide +kernel
theorem dX10_restrict_13 : decode cX10_restrict 13 = .ok (.iconst 1, 1) := by decide +kernel
theorem dX10_restrict_14 : decode cX10_restrict 14 = .ok (.iand, 1) := by decide +kernel
theorem dX10_restrict_15 : decode cX10_restrict 15 = .ok (.ifCond .ne 19, 3) := by decide +kernel
theorem dX10_restrict_18 : decode cX10_restrict 18 = .ok (.aload_n 0, 1) := by decide +kernel
theorem dX10_restrict_19 : decode cX10_restrict 19 = .ok (.iload_n 1, 1) := by decide +kernel
theorem dX10_restrict_20 : decode cX10_restrict 20 = .ok (.iload 4, 2) := by decide +kernel
theorem dX10_restrict_22 : decode cX10_restrict 22 = .ok (.iadd, 1) := by decide +kernel
theorem dX10_restrict_23 : decode cX10_restrict 23 = .ok (.dup2, 1) := by decide +kernel
theorem dX10_restrict_24 : decode cX10_restrict 24 = .ok (.laload, 1) := by decide +kernel
theorem dX10_restrict_25 : decode cX10_restrict 25 = .ok (.lconst 1, 1) := by decide +kernel
theorem dX10_restrict_26 : decode cX10_restrict 26 = .ok (.iload_n 2, 1) := by decide +kernel
theorem dX10_restrict_27 : decode cX10_restrict 27 = .ok (.lshl, 1) := by decide +kernel
theorem dX10_restrict_28 : decode cX10_restrict 28 = .ok (.ldc2_w 209, 3) := by decide +kernel
theorem dX10_restrict_31 : decode cX10_restrict 31 = .ok (.lxor, 1) := by decide +kernel
theorem dX10_restrict_32 : decode cX10_restrict 32 = .ok (.land, 1) := by decide +kernel
theorem dX10_restrict_33 : decode cX10_restrict 33 = .ok (.lastore, 1) := by decide +kernel
theorem dX10_restrict_34 : decode cX10_restrict 34 = .ok (.iinc 4 1, 3) := by decide +kernel
theorem dX10_restrict_37 : decode cX10_restrict 37 = .ok (.goto (-34), 3) := by decide +kernel
theorem dX10_restrict_40 : decode cX10_restrict 40 = .ok (.return_, 1) := by decide +kernel
set_option maxRecDepth 20000 in
set_option maxHeartbeats 4000000 in
theorem w_X10_restrict {c : rX} {d : Nat} {S : rS} {K : Option Value → rS → Prop} (ho : rOK c) {kp0 fp0 np0 : Nat} (hp0 : rT[kp0]? = some (fp0, 21, np0)) (p1 : Int32) (p2 : Int32) (p3 : Int32) (h : rG c eX10_restrict d (rQ c K) 3 [some (.ref (c.2.2.1 + (kp0 + 1))), some (.int p1), some (.int p2), some (.int p3), some (.int 0)] [] S) : rM c d eX10_restrict [.ref (c.2.2.1 + (kp0 + 1)), .int p1, .int p2, .int p3] S K := by
  refine rM.of (by decide) (Nat.le_of_ble_eq_true rfl) ?_
  show rG c eX10_restrict d (rQ c K) 0 [some (.ref (c.2.2.1 + (kp0 + 1))), some (.int p1), some (.int p2), some (.int p3), none] [] S
  refine ag_iconst (v := 0) dX10_restrict_0 rfl ?_
  refine ag_istore (lv2 := [some (.ref (c.2.2.1 + (kp0 + 1))), some (.int p1), some (.int p2), some (.int p3), some (.int 0)]) dX10_restrict_1 (Nat.le_of_ble_eq_true rfl) rfl ?_
  exact h
set_option maxRecDepth 20000 in
set_option maxHeartbeats 4000000 in
theorem w_X10_restrict_3 {c : rX} {d : Nat} {S : rS} {K : Option Value → rS → Prop} (ho : rOK c) {kp0 fp0 np0 : Nat} (hp0 : rT[kp0]? = some (fp0, 21, np0)) (v1 : Int32) (v2 : Int32) (v3 : Int32) (v4 : Int32) (h : (5 ≤ v4 → (K none S)) ∧ (¬ 5 ≤ v4 → ((¬ ((v3 >>> (v4 &&& 31)) &&& 1) = 0 → (rG c eX10_restrict d (rQ c K) 3 [some (.ref (c.2.2.1 + (kp0 + 1))), some (.int v1), some (.int v2), some (.int v3), some (.int (v4 + 1))] [] S)) ∧ (((v3 >>> (v4 &&& 31)) &&& 1) = 0 → (∃ j3 : Nat, am_ix (v1 + v4) j3 np0 ∧ (∃ j5 : Nat, am_ix (v1 + v4) j5 np0 ∧ (rG c eX10_restrict d (rQ c K) 3 [some (.ref (c.2.2.1 + (kp0 + 1))), some (.int v1), some (.int v2), some (.int v3), some (.int (v4 + 1))] [] (rsj S fp0 j5 ((S.2 fp0 j3) &&& ((1 <<< (Int32.toInt64 v2 &&& 63)) ^^^ (-1))))))))))) : rG c eX10_restrict d (rQ c K) 3 [some (.ref (c.2.2.1 + (kp0 + 1))), some (.int v1), some (.int v2), some (.int v3), some (.int v4)] [] S := by
  refine ag_iload dX10_restrict_3 rfl ?_
  refine ag_iconst (v := 5) dX10_restrict_5 rfl ?_
  refine ag_icmp_ge (tgt := 40) dX10_restrict_6 rfl (fun hc1 => ?_) (fun hc1 => ?_)
  · have h := h.1 hc1
    exact ag_ret (v := none) dX10_restrict_40 rfl ⟨_, rfl, _, rfl, h⟩ rfl
  · have h := h.2 hc1
    refine ag_iload_n dX10_restrict_9 rfl ?_
    refine ag_iload dX10_restrict_10 rfl ?_
    refine ag_ishr dX10_restrict_12 rfl ?_
    refine ag_iconst (v := 1) dX10_restrict_13 rfl ?_
    refine ag_iand dX10_restrict_14 rfl ?_
    refine ag_if_ne (tgt := 34) dX10_restrict_15 rfl (fun hc2 => ?_) (fun hc2 => ?_)
    · have h := h.1 hc2
      refine ag_iinc (v2 := (v4 + 1)) (lv2 := [some (.ref (c.2.2.1 + (kp0 + 1))), some (.int v1), some (.int v2), some (.int v3), some (.int (v4 + 1))]) dX10_restrict_34 rfl rfl rfl ?_
      refine ag_goto (tgt := 3) dX10_restrict_37 rfl ?_
      exact h
    · have h := h.2 hc2
      refine ag_aload_n dX10_restrict_18 rfl (Or.inr ⟨_, rfl⟩) ?_
      refine ag_iload_n dX10_restrict_19 rfl ?_
      refine ag_iload dX10_restrict_20 rfl ?_
      refine ag_iadd dX10_restrict_22 rfl ?_
      refine ag_dup2 dX10_restrict_23 rfl rfl ?_
      obtain ⟨j3, hj4, h⟩ := h
      refine rr_ll (v := S.2 fp0 j3) ho dX10_restrict_24 hp0 hj4 rfl ?_
      refine ag_lconst (v := 1) dX10_restrict_25 (by decide) ?_
      refine ag_iload_n dX10_restrict_26 rfl ?_
      refine ag_lshl dX10_restrict_27 rfl ?_
      refine ag_ldc2 dX10_restrict_28 kl_10_209 ?_
      refine ag_lxor dX10_restrict_31 rfl ?_
      refine ag_land dX10_restrict_32 rfl ?_
      obtain ⟨j5, hj6, h⟩ := h
      refine rr_ls (S2 := (rsj S fp0 j5 ((S.2 fp0 j3) &&& ((1 <<< (Int32.toInt64 v2 &&& 63)) ^^^ (-1))))) ho dX10_restrict_33 hp0 hj6 rfl ?_
      refine ag_iinc (v2 := (v4 + 1)) (lv2 := [some (.ref (c.2.2.1 + (kp0 + 1))), some (.int v1), some (.int v2), some (.int v3), some (.int (v4 + 1))]) dX10_restrict_34 rfl rfl rfl ?_
      refine ag_goto (tgt := 3) dX10_restrict_37 rfl ?_
      exact h
theorem dX10_say_0 : decode cX10_say 0 = .ok (.iconst 0, 1) := by decide +kernel
theorem dX10_say_1 : decode cX10_say 1 = .ok (.istore 4, 2) := by decide +kernel
theorem dX10_say_3 : decode cX10_say 3 = .ok (.iload 4, 2) := by decide +kernel
theorem dX10_say_5 : decode cX10_say 5 = .ok (.iconst 5, 1) := by decide +kernel
theorem dX10_say_6 : decode cX10_say 6 = .ok (.if_icmp .ge 52, 3) := by decide +kernel
theorem dX10_say_9 : decode cX10_say 9 = .ok (.aload_n 0, 1) := by decide +kernel
theorem dX10_say_10 : decode cX10_say 10 = .ok (.iload_n 1, 1) := by decide +kernel
theorem dX10_say_11 : decode cX10_say 11 = .ok (.iload 4, 2) := by decide +kernel
theorem dX10_say_13 : decode cX10_say 13 = .ok (.iadd, 1) := by decide +kernel
theorem dX10_say_14 : decode cX10_say 14 = .ok (.iload_n 3, 1) := by decide +kernel
theorem dX10_say_15 : decode cX10_say 15 = .ok (.iload 4, 2) := by decide +kernel
theorem dX10_say_17 : decode cX10_say 17 = .ok (.ishr, 1) := by decide +kernel
theorem dX10_say_18 : decode cX10_say 18 = .ok (.iconst 1, 1) := by decide +kernel
theorem dX10_say_19 : decode cX10_say 19 = .ok (.iand, 1) := by decide +kernel
theorem dX10_say_20 : decode cX10_say 20 = .ok (.iconst 1, 1) := by decide +kernel
theorem dX10_say_21 : decode cX10_say 21 = .ok (.if_icmp .ne 16, 3) := by decide +kernel
theorem dX10_say_24 : decode cX10_say 24 = .ok (.aload_n 0, 1) := by decide +kernel
theorem dX10_say_25 : decode cX10_say 25 = .ok (.iload_n 1, 1) := by decide +kernel
theorem dX10_say_26 : decode cX10_say 26 = .ok (.iload 4, 2) := by decide +kernel
theorem dX10_say_28 : decode cX10_say 28 = .ok (.iadd, 1) := by decide +kernel
theorem dX10_say_29 : decode cX10_say 29 = .ok (.laload, 1) := by decide +kernel
theorem dX10_say_30 : decode cX10_say 30 = .ok (.lconst 1, 1) := by decide +kernel
theorem dX10_say_31 : decode cX10_say 31 = .ok (.iload_n 2, 1) := by decide +kernel
theorem dX10_say_32 : decode cX10_say 32 = .ok (.lshl, 1) := by decide +kernel
theorem dX10_say_33 : decode cX10_say 33 = .ok (.lor, 1) := by decide +kernel
theorem dX10_say_34 : decode cX10_say 34 = .ok (.goto 17, 3) := by decide +kernel
theorem dX10_say_37 : decode cX10_say 37 = .ok (.aload_n 0, 1) := by decide +kernel
theorem dX10_say_38 : decode cX10_say 38 = .ok (.iload_n 1, 1) := by decide +kernel
theorem dX10_say_39 : decode cX10_say 39 = .ok (.iload 4, 2) := by decide +kernel
theorem dX10_say_41 : decode cX10_say 41 = .ok (.iadd, 1) := by decide +kernel
theorem dX10_say_42 : decode cX10_say 42 = .ok (.laload, 1) := by decide +kernel
theorem dX10_say_43 : decode cX10_say 43 = .ok (.lconst 1, 1) := by decide +kernel
theorem dX10_say_44 : decode cX10_say 44 = .ok (.iload_n 2, 1) := by decide +kernel
theorem dX10_say_45 : decode cX10_say 45 = .ok (.lshl, 1) := by decide +kernel
theorem dX10_say_46 : decode cX10_say 46 = .ok (.ldc2_w 209, 3) := by decide +kernel
theorem dX10_say_49 : decode cX10_say 49 = .ok (.lxor, 1) := by decide +kernel
theorem dX10_say_50 : decode cX10_say 50 = .ok (.land, 1) := by decide +kernel
theorem dX10_say_51 : decode cX10_say 51 = .ok (.lastore, 1) := by decide +kernel
theorem dX10_say_52 : decode cX10_say 52 = .ok (.iinc 4 1, 3) := by decide +kernel
theorem dX10_say_55 : decode cX10_say 55 = .ok (.goto (-52), 3) := by decide +kernel
theorem dX10_say_58 : decode cX10_say 58 = .ok (.return_, 1) := by decide +kernel
set_option maxRecDepth 20000 in
set_option maxHeartbeats 4000000 in
theorem w_X10_say {c : rX} {d : Nat} {S : rS} {K : Option Value → rS → Prop} (ho : rOK c) {kp0 fp0 np0 : Nat} (hp0 : rT[kp0]? = some (fp0, 21, np0)) (p1 : Int32) (p2 : Int32) (p3 : Int32) (h : rG c eX10_say d (rQ c K) 3 [some (.ref (c.2.2.1 + (kp0 + 1))), some (.int p1), some (.int p2), some (.int p3), some (.int 0)] [] S) : rM c d eX10_say [.ref (c.2.2.1 + (kp0 + 1)), .int p1, .int p2, .int p3] S K := by
  refine rM.of (by decide) (Nat.le_of_ble_eq_true rfl) ?_
  show rG c eX10_say d (rQ c K) 0 [some (.ref (c.2.2.1 + (kp0 + 1))), some (.int p1), some (.int p2), some (.int p3), none] [] S
  refine ag_iconst (v := 0) dX10_say_0 rfl ?_
  refine ag_istore (lv2 := [some (.ref (c.2.2.1 + (kp0 + 1))), some (.int p1), some (.int p2), some (.int p3), some (.int 0)]) dX10_say_1 (Nat.le_of_ble_eq_true rfl) rfl ?_
  exact h
set_option maxRecDepth 20000 in
set_option maxHeartbeats 4000000 in
theorem w_X10_say_3 {c : rX} {d : Nat} {S : rS} {K : Option Value → rS → Prop} (ho : rOK c) {kp0 fp0 np0 : Nat} (hp0 : rT[kp0]? = some (fp0, 21, np0)) (v1 : Int32) (v2 : Int32) (v3 : Int32) (v4 : Int32) (h : (5 ≤ v4 → (K none S)) ∧ (¬ 5 ≤ v4 → ((¬ ((v3 >>> (v4 &&& 31)) &&& 1) = 1 → (∃ j3 : Nat, am_ix (v1 + v4) j3 np0 ∧ (∃ j5 : Nat, am_ix (v1 + v4) j5 np0 ∧ (rG c eX10_say d (rQ c K) 3 [some (.ref (c.2.2.1 + (kp0 + 1))), some (.int v1), some (.int v2), some (.int v3), some (.int (v4 + 1))] [] (rsj S fp0 j5 ((S.2 fp0 j3) &&& ((1 <<< (Int32.toInt64 v2 &&& 63)) ^^^ (-1)))))))) ∧ (((v3 >>> (v4 &&& 31)) &&& 1) = 1 → (∃ j7 : Nat, am_ix (v1 + v4) j7 np0 ∧ (∃ j9 : Nat, am_ix (v1 + v4) j9 np0 ∧ (rG c eX10_say d (rQ c K) 3 [some (.ref (c.2.2.1 + (kp0 + 1))), some (.int v1), some (.int v2), some (.int v3), some (.int (v4 + 1))] [] (rsj S fp0 j9 ((S.2 fp0 j7) ||| (1 <<< (Int32.toInt64 v2 &&& 63))))))))))) : rG c eX10_say d (rQ c K) 3 [some (.ref (c.2.2.1 + (kp0 + 1))), some (.int v1), some (.int v2), some (.int v3), some (.int v4)] [] S := by
  refine ag_iload dX10_say_3 rfl ?_
  refine ag_iconst (v := 5) dX10_say_5 rfl ?_
  refine ag_icmp_ge (tgt := 58) dX10_say_6 rfl (fun hc1 => ?_) (fun hc1 => ?_)
  · have h := h.1 hc1
    exact ag_ret (v := none) dX10_say_58 rfl ⟨_, rfl, _, rfl, h⟩ rfl
  · have h := h.2 hc1
    refine ag_aload_n dX10_say_9 rfl (Or.inr ⟨_, rfl⟩) ?_
    refine ag_iload_n dX10_say_10 rfl ?_
    refine ag_iload dX10_say_11 rfl ?_
    refine ag_iadd dX10_say_13 rfl ?_
    refine ag_iload_n dX10_say_14 rfl ?_
    refine ag_iload dX10_say_15 rfl ?_
    refine ag_ishr dX10_say_17 rfl ?_
    refine ag_iconst (v := 1) dX10_say_18 rfl ?_
    refine ag_iand dX10_say_19 rfl ?_
    refine ag_iconst (v := 1) dX10_say_20 rfl ?_
    refine ag_icmp_ne (tgt := 37) dX10_say_21 rfl (fun hc2 => ?_) (fun hc2 => ?_)
    · have h := h.1 hc2
      refine ag_aload_n dX10_say_37 rfl (Or.inr ⟨_, rfl⟩) ?_
      refine ag_iload_n dX10_say_38 rfl ?_
      refine ag_iload dX10_say_39 rfl ?_
      refine ag_iadd dX10_say_41 rfl ?_
      obtain ⟨j3, hj4, h⟩ := h
      refine rr_ll (v := S.2 fp0 j3) ho dX10_say_42 hp0 hj4 rfl ?_
      refine ag_lconst (v := 1) dX10_say_43 (by decide) ?_
      refine ag_iload_n dX10_say_44 rfl ?_
      refine ag_lshl dX10_say_45 rfl ?_
      refine ag_ldc2 dX10_say_46 kl_10_209 ?_
      refine ag_lxor dX10_say_49 rfl ?_
      refine ag_land dX10_say_50 rfl ?_
      obtain ⟨j5, hj6, h⟩ := h
      refine rr_ls (S2 := (rsj S fp0 j5 ((S.2 fp0 j3) &&& ((1 <<< (Int32.toInt64 v2 &&& 63)) ^^^ (-1))))) ho dX10_say_51 hp0 hj6 rfl ?_
      refine ag_iinc (v2 := (v4 + 1)) (lv2 := [some (.ref (c.2.2.1 + (kp0 + 1))), some (.int v1), some (.int v2), some (.int v3), some (.int (v4 + 1))]) dX10_say_52 rfl rfl rfl ?_
      refine ag_goto (tgt := 3) dX10_say_55 rfl ?_
      exact h
    · have h := h.2 hc2
      refine ag_aload_n dX10_say_24 rfl (Or.inr ⟨_, rfl⟩) ?_
      refine ag_iload_n dX10_say_25 rfl ?_
      refine ag_iload dX10_say_26 rfl ?_
      refine ag_iadd dX10_say_28 rfl ?_
      obtain ⟨j7, hj8, h⟩ := h
      refine rr_ll (v := S.2 fp0 j7) ho dX10_say_29 hp0 hj8 rfl ?_
      refine ag_lconst (v := 1) dX10_say_30 (by decide) ?_
      refine ag_iload_n dX10_say_31 rfl ?_
      refine ag_lshl dX10_say_32 rfl ?_
      refine ag_lor dX10_say_33 rfl ?_
      refine ag_goto (tgt := 51) dX10_say_34 rfl ?_
      obtain ⟨j9, hj10, h⟩ := h
      refine rr_ls (S2 := (rsj S fp0 j9 ((S.2 fp0 j7) ||| (1 <<< (Int32.toInt64 v2 &&& 63))))) ho dX10_say_51 hp0 hj10 rfl ?_
      refine ag_iinc (v2 := (v4 + 1)) (lv2 := [some (.ref (c.2.2.1 + (kp0 + 1))), some (.int v1), some (.int v2), some (.int v3), some (.int (v4 + 1))]) dX10_say_52 rfl rfl rfl ?_
      refine ag_goto (tgt := 3) dX10_say_55 rfl ?_
      exact h
theorem dX10_said_0 : decode cX10_said 0 = .ok (.iconst 0, 1) := by decide +kernel
theorem dX10_said_1 : decode cX10_said 1 = .ok (.istore_n 3, 1) := by decide +kernel
theorem dX10_said_2 : decode cX10_said 2 = .ok (.iconst 0, 1) := by decide +kernel
theorem dX10_said_3 : decode cX10_said 3 = .ok (.istore 4, 2) := by decide +kernel
theorem dX10_said_5 : decode cX10_said 5 = .ok (.iload 4, 2) := by decide +kernel
theorem dX10_said_7 : decode cX10_said 7 = .ok (.iconst 5, 1) := by decide +kernel
theorem dX10_said_8 : decode cX10_said 8 = .ok (.if_icmp .ge 26, 3) := by decide +kernel
theorem dX10_said_11 : decode cX10_said 11 = .ok (.iload_n 3, 1) := by decide +kernel
theorem dX10_said_12 : decode cX10_said 12 = .ok (.aload_n 0, 1) := by decide +kernel
theorem dX10_said_13 : decode cX10_said 13 = .ok (.iload_n 1, 1) := by decide +kernel
theorem dX10_said_14 : decode cX10_said 14 = .ok (.iload 4, 2) := by decide +kernel
theorem dX10_said_16 : decode cX10_said 16 = .ok (.iadd, 1) := by decide +kernel
theorem dX10_said_17 : decode cX10_said 17 = .ok (.laload, 1) := by decide +kernel
theorem dX10_said_18 : decode cX10_said 18 = .ok (.iload_n 2, 1) := by decide +kernel
theorem dX10_said_19 : decode cX10_said 19 = .ok (.lshr, 1) := by decide +kernel
theorem dX10_said_20 : decode cX10_said 20 = .ok (.lconst 1, 1) := by decide +kernel
theorem dX10_said_21 : decode cX10_said 21 = .ok (.land, 1) := by decide +kernel
theorem dX10_said_22 : decode cX10_said 22 = .ok (.l2i, 1) := by decide +kernel
theorem dX10_said_23 : decode cX10_said 23 = .ok (.iload 4, 2) := by decide +kernel
theorem dX10_said_25 : decode cX10_said 25 = .ok (.ishl, 1) := by decide +kernel
theorem dX10_said_26 : decode cX10_said 26 = .ok (.ior, 1) := by decide +kernel
theorem dX10_said_27 : decode cX10_said 27 = .ok (.istore_n 3, 1) := by decide +kernel
theorem dX10_said_28 : decode cX10_said 28 = .ok (.iinc 4 1, 3) := by decide +kernel
theorem dX10_said_31 : decode cX10_said 31 = .ok (.goto (-26), 3) := by decide +kernel
theorem dX10_said_34 : decode cX10_said 34 = .ok (.iload_n 3, 1) := by decide +kernel
theorem dX10_said_35 : decode cX10_said 35 = .ok (.ireturn, 1) := by decide +kernel
set_option maxRecDepth 20000 in
set_option maxHeartbeats 4000000 in
theorem w_X10_said {c : rX} {d : Nat} {S : rS} {K : Option Value → rS → Prop} (ho : rOK c) {kp0 fp0 np0 : Nat} (hp0 : rT[kp0]? = some (fp0, 21, np0)) (p1 : Int32) (p2 : Int32) (h : rG c eX10_said d (rQ c K) 5 [some (.ref (c.2.2.1 + (kp0 + 1))), some (.int p1), some (.int p2), some (.int 0), some (.int 0)] [] S) : rM c d eX10_said [.ref (c.2.2.1 + (kp0 + 1)), .int p1, .int p2] S K := by
  refine rM.of (by decide) (Nat.le_of_ble_eq_true rfl) ?_
  show rG c eX10_said d (rQ c K) 0 [some (.ref (c.2.2.1 + (kp0 + 1))), some (.int p1), some (.int p2), none, none] [] S
  refine ag_iconst (v := 0) dX10_said_0 rfl ?_
  refine ag_istore_n (lv2 := [some (.ref (c.2.2.1 + (kp0 + 1))), some (.int p1), some (.int p2), some (.int 0), none]) dX10_said_1 (Nat.le_of_ble_eq_true rfl) rfl ?_
  refine ag_iconst (v := 0) dX10_said_2 rfl ?_
  refine ag_istore (lv2 := [some (.ref (c.2.2.1 + (kp0 + 1))), some (.int p1), some (.int p2), some (.int 0), some (.int 0)]) dX10_said_3 (Nat.le_of_ble_eq_true rfl) rfl ?_
  exact h
set_option maxRecDepth 20000 in
set_option maxHeartbeats 4000000 in
theorem w_X10_said_5 {c : rX} {d : Nat} {S : rS} {K : Option Value → rS → Prop} (ho : rOK c) {kp0 fp0 np0 : Nat} (hp0 : rT[kp0]? = some (fp0, 21, np0)) (v1 : Int32) (v2 : Int32) (v3 : Int32) (v4 : Int32) (h : (5 ≤ v4 → (K (some (.int v3)) S)) ∧ (¬ 5 ≤ v4 → (∃ j2 : Nat, am_ix (v1 + v4) j2 np0 ∧ (rG c eX10_said d (rQ c K) 5 [some (.ref (c.2.2.1 + (kp0 + 1))), some (.int v1), some (.int v2), some (.int (v3 ||| ((Int64.toInt32 (((S.2 fp0 j2) >>> (Int32.toInt64 v2 &&& 63)) &&& 1)) <<< (v4 &&& 31)))), some (.int (v4 + 1))] [] S)))) : rG c eX10_said d (rQ c K) 5 [some (.ref (c.2.2.1 + (kp0 + 1))), some (.int v1), some (.int v2), some (.int v3), some (.int v4)] [] S := by
  refine ag_iload dX10_said_5 rfl ?_
  refine ag_iconst (v := 5) dX10_said_7 rfl ?_
  refine ag_icmp_ge (tgt := 34) dX10_said_8 rfl (fun hc1 => ?_) (fun hc1 => ?_)
  · have h := h.1 hc1
    refine ag_iload_n dX10_said_34 rfl ?_
    exact ag_ret (v := some (.int v3)) dX10_said_35 ⟨_, rfl, rfl⟩ ⟨_, rfl, _, rfl, h⟩ rfl
  · have h := h.2 hc1
    refine ag_iload_n dX10_said_11 rfl ?_
    refine ag_aload_n dX10_said_12 rfl (Or.inr ⟨_, rfl⟩) ?_
    refine ag_iload_n dX10_said_13 rfl ?_
    refine ag_iload dX10_said_14 rfl ?_
    refine ag_iadd dX10_said_16 rfl ?_
    obtain ⟨j2, hj3, h⟩ := h
    refine rr_ll (v := S.2 fp0 j2) ho dX10_said_17 hp0 hj3 rfl ?_
    refine ag_iload_n dX10_said_18 rfl ?_
    refine ag_lshr dX10_said_19 rfl ?_
    refine ag_lconst (v := 1) dX10_said_20 (by decide) ?_
    refine ag_land dX10_said_21 rfl ?_
    refine ag_l2i dX10_said_22 rfl ?_
    refine ag_iload dX10_said_23 rfl ?_
    refine ag_ishl dX10_said_25 rfl ?_
    refine ag_ior dX10_said_26 rfl ?_
    refine ag_istore_n (lv2 := [some (.ref (c.2.2.1 + (kp0 + 1))), some (.int v1), some (.int v2), some (.int (v3 ||| ((Int64.toInt32 (((S.2 fp0 j2) >>> (Int32.toInt64 v2 &&& 63)) &&& 1)) <<< (v4 &&& 31)))), some (.int v4)]) dX10_said_27 (Nat.le_of_ble_eq_true rfl) rfl ?_
    refine ag_iinc (v2 := (v4 + 1)) (lv2 := [some (.ref (c.2.2.1 + (kp0 + 1))), some (.int v1), some (.int v2), some (.int (v3 ||| ((Int64.toInt32 (((S.2 fp0 j2) >>> (Int32.toInt64 v2 &&& 63)) &&& 1)) <<< (v4 &&& 31)))), some (.int (v4 + 1))]) dX10_said_28 rfl rfl rfl ?_
    refine ag_goto (tgt := 5) dX10_said_31 rfl ?_
    exact h
theorem dX10_both_0 : decode cX10_both 0 = .ok (.iconst 0, 1) := by decide +kernel
theorem dX10_both_1 : decode cX10_both 1 = .ok (.istore 4, 2) := by decide +kernel
theorem dX10_both_3 : decode cX10_both 3 = .ok (.iload 4, 2) := by decide +kernel
theorem dX10_both_5 : decode cX10_both 5 = .ok (.iconst 5, 1) := by decide +kernel
theorem dX10_both_6 : decode cX10_both 6 = .ok (.if_icmp .ge 24, 3) := by decide +kernel
theorem dX10_both_9 : decode cX10_both 9 = .ok (.aload_n 0, 1) := by decide +kernel
theorem dX10_both_10 : decode cX10_both 10 = .ok (.iload_n 1, 1) := by decide +kernel
theorem dX10_both_11 : decode cX10_both 11 = .ok (.iload 4, 2) := by decide +kernel
theorem dX10_both_13 : decode cX10_both 13 = .ok (.iadd, 1) := by decide +kernel
theorem dX10_both_14 : decode cX10_both 14 = .ok (.dup2, 1) := by decide +kernel
theorem dX10_both_15 : decode cX10_both 15 = .ok (.laload, 1) := by decide +kernel
theorem dX10_both_16 : decode cX10_both 16 = .ok (.aload_n 2, 1) := by decide +kernel
theorem dX10_both_17 : decode cX10_both 17 = .ok (.iload_n 3, 1) := by decide +kernel
theorem dX10_both_18 : decode cX10_both 18 = .ok (.iload 4, 2) := by decide +kernel
theorem dX10_both_20 : decode cX10_both 20 = .ok (.iadd, 1) := by decide +kernel
theorem dX10_both_21 : decode cX10_both 21 = .ok (.laload, 1) := by decide +kernel
theorem dX10_both_22 : decode cX10_both 22 = .ok (.land, 1) := by decide +kernel
theorem dX10_both_23 : decode cX10_both 23 = .ok (.lastore, 1) := by decide +kernel
theorem dX10_both_24 : decode cX10_both 24 = .ok (.iinc 4 1, 3) := by decide +kernel
theorem dX10_both_27 : decode cX10_both 27 = .ok (.goto (-24), 3) := by decide +kernel
theorem dX10_both_30 : decode cX10_both 30 = .ok (.return_, 1) := by decide +kernel
set_option maxRecDepth 20000 in
set_option maxHeartbeats 4000000 in
theorem w_X10_both {c : rX} {d : Nat} {S : rS} {K : Option Value → rS → Prop} (ho : rOK c) {kp0 fp0 np0 : Nat} (hp0 : rT[kp0]? = some (fp0, 21, np0)) (p1 : Int32) {kp2 fp2 np2 : Nat} (hp2 : rT[kp2]? = some (fp2, 21, np2)) (p3 : Int32) (h : rG c eX10_both d (rQ c K) 3 [some (.ref (c.2.2.1 + (kp0 + 1))), some (.int p1), some (.ref (c.2.2.1 + (kp2 + 1))), some (.int p3), some (.int 0)] [] S) : rM c d eX10_both [.ref (c.2.2.1 + (kp0 + 1)), .int p1, .ref (c.2.2.1 + (kp2 + 1)), .int p3] S K := by
  refine rM.of (by decide) (Nat.le_of_ble_eq_true rfl) ?_
  show rG c eX10_both d (rQ c K) 0 [some (.ref (c.2.2.1 + (kp0 + 1))), some (.int p1), some (.ref (c.2.2.1 + (kp2 + 1))), some (.int p3), none] [] S
  refine ag_iconst (v := 0) dX10_both_0 rfl ?_
  refine ag_istore (lv2 := [some (.ref (c.2.2.1 + (kp0 + 1))), some (.int p1), some (.ref (c.2.2.1 + (kp2 + 1))), some (.int p3), some (.int 0)]) dX10_both_1 (Nat.le_of_ble_eq_true rfl) rfl ?_
  exact h
set_option maxRecDepth 20000 in
set_option maxHeartbeats 4000000 in
theorem w_X10_both_3 {c : rX} {d : Nat} {S : rS} {K : Option Value → rS → Prop} (ho : rOK c) {kp0 fp0 np0 : Nat} (hp0 : rT[kp0]? = some (fp0, 21, np0)) (v1 : Int32) {kp2 fp2 np2 : Nat} (hp2 : rT[kp2]? = some (fp2, 21, np2)) (v3 : Int32) (v4 : Int32) (h : (5 ≤ v4 → (K none S)) ∧ (¬ 5 ≤ v4 → (∃ j2 : Nat, am_ix (v1 + v4) j2 np0 ∧ (∃ j4 : Nat, am_ix (v3 + v4) j4 np2 ∧ (∃ j6 : Nat, am_ix (v1 + v4) j6 np0 ∧ (rG c eX10_both d (rQ c K) 3 [some (.ref (c.2.2.1 + (kp0 + 1))), some (.int v1), some (.ref (c.2.2.1 + (kp2 + 1))), some (.int v3), some (.int (v4 + 1))] [] (rsj S fp0 j6 ((S.2 fp0 j2) &&& (S.2 fp2 j4))))))))) : rG c eX10_both d (rQ c K) 3 [some (.ref (c.2.2.1 + (kp0 + 1))), some (.int v1), some (.ref (c.2.2.1 + (kp2 + 1))), some (.int v3), some (.int v4)] [] S := by
  refine ag_iload dX10_both_3 rfl ?_
  refine ag_iconst (v := 5) dX10_both_5 rfl ?_
  refine ag_icmp_ge (tgt := 30) dX10_both_6 rfl (fun hc1 => ?_) (fun hc1 => ?_)
  · have h := h.1 hc1
    exact ag_ret (v := none) dX10_both_30 rfl ⟨_, rfl, _, rfl, h⟩ rfl
  · have h := h.2 hc1
    refine ag_aload_n dX10_both_9 rfl (Or.inr ⟨_, rfl⟩) ?_
    refine ag_iload_n dX10_both_10 rfl ?_
    refine ag_iload dX10_both_11 rfl ?_
    refine ag_iadd dX10_both_13 rfl ?_
    refine ag_dup2 dX10_both_14 rfl rfl ?_
    obtain ⟨j2, hj3, h⟩ := h
    refine rr_ll (v := S.2 fp0 j2) ho dX10_both_15 hp0 hj3 rfl ?_
    refine ag_aload_n dX10_both_16 rfl (Or.inr ⟨_, rfl⟩) ?_
    refine ag_iload_n dX10_both_17 rfl ?_
    refine ag_iload dX10_both_18 rfl ?_
    refine ag_iadd dX10_both_20 rfl ?_
    obtain ⟨j4, hj5, h⟩ := h
    refine rr_ll (v := S.2 fp2 j4) ho dX10_both_21 hp2 hj5 rfl ?_
    refine ag_land dX10_both_22 rfl ?_
    obtain ⟨j6, hj7, h⟩ := h
    refine rr_ls (S2 := (rsj S fp0 j6 ((S.2 fp0 j2) &&& (S.2 fp2 j4)))) ho dX10_both_23 hp0 hj7 rfl ?_
    refine ag_iinc (v2 := (v4 + 1)) (lv2 := [some (.ref (c.2.2.1 + (kp0 + 1))), some (.int v1), some (.ref (c.2.2.1 + (kp2 + 1))), some (.int v3), some (.int (v4 + 1))]) dX10_both_24 rfl rfl rfl ?_
    refine ag_goto (tgt := 3) dX10_both_27 rfl ?_
    exact h
theorem dX10_either_0 : decode cX10_either 0 = .ok (.iconst 0, 1) := by decide +kernel
theorem dX10_either_1 : decode cX10_either 1 = .ok (.istore 4, 2) := by decide +kernel
theorem dX10_either_3 : decode cX10_either 3 = .ok (.iload 4, 2) := by decide +kernel
theorem dX10_either_5 : decode cX10_either 5 = .ok (.iconst 5, 1) := by decide +kernel
theorem dX10_either_6 : decode cX10_either 6 = .ok (.if_icmp .ge 24, 3) := by decide +kernel
theorem dX10_either_9 : decode cX10_either 9 = .ok (.aload_n 0, 1) := by decide +kernel
theorem dX10_either_10 : decode cX10_either 10 = .ok (.iload_n 1, 1) := by decide +kernel
theorem dX10_either_11 : decode cX10_either 11 = .ok (.iload 4, 2) := by decide +kernel
theorem dX10_either_13 : decode cX10_either 13 = .ok (.iadd, 1) := by decide +kernel
theorem dX10_either_14 : decode cX10_either 14 = .ok (.dup2, 1) := by decide +kernel
theorem dX10_either_15 : decode cX10_either 15 = .ok (.laload, 1) := by decide +kernel
theorem dX10_either_16 : decode cX10_either 16 = .ok (.aload_n 2, 1) := by decide +kernel
theorem dX10_either_17 : decode cX10_either 17 = .ok (.iload_n 3, 1) := by decide +kernel
theorem dX10_either_18 : decode cX10_either 18 = .ok (.iload 4, 2) := by decide +kernel
theorem dX10_either_20 : decode cX10_either 20 = .ok (.iadd, 1) := by decide +kernel
theorem dX10_either_21 : decode cX10_either 21 = .ok (.laload, 1) := by decide +kernel
theorem dX10_either_22 : decode cX10_either 22 = .ok (.lor, 1) := by decide +kernel
theorem dX10_either_23 : decode cX10_either 23 = .ok (.lastore, 1) := by decide +kernel
theorem dX10_either_24 : decode cX10_either 24 = .ok (.iinc 4 1, 3) := by decide +kernel
theorem dX10_either_27 : decode cX10_either 27 = .ok (.goto (-24), 3) := by decide +kernel
theorem dX10_either_30 : decode cX10_either 30 = .ok (.return_, 1) := by decide +kernel
set_option maxRecDepth 20000 in
set_option maxHeartbeats 4000000 in
theorem w_X10_either {c : rX} {d : Nat} {S : rS} {K : Option Value → rS → Prop} (ho : rOK c) {kp0 fp0 np0 : Nat} (hp0 : rT[kp0]? = some (fp0, 21, np0)) (p1 : Int32) {kp2 fp2 np2 : Nat} (hp2 : rT[kp2]? = some (fp2, 21, np2)) (p3 : Int32) (h : rG c eX10_either d (rQ c K) 3 [some (.ref (c.2.2.1 + (kp0 + 1))), some (.int p1), some (.ref (c.2.2.1 + (kp2 + 1))), some (.int p3), some (.int 0)] [] S) : rM c d eX10_either [.ref (c.2.2.1 + (kp0 + 1)), .int p1, .ref (c.2.2.1 + (kp2 + 1)), .int p3] S K := by
  refine rM.of (by decide) (Nat.le_of_ble_eq_true rfl) ?_
  show rG c eX10_either d (rQ c K) 0 [some (.ref (c.2.2.1 + (kp0 + 1))), some (.int p1), some (.ref (c.2.2.1 + (kp2 + 1))), some (.int p3), none] [] S
  refine ag_iconst (v := 0) dX10_either_0 rfl ?_
  refine ag_istore (lv2 := [some (.ref (c.2.2.1 + (kp0 + 1))), some (.int p1), some (.ref (c.2.2.1 + (kp2 + 1))), some (.int p3), some (.int 0)]) dX10_either_1 (Nat.le_of_ble_eq_true rfl) rfl ?_
  exact h
set_option maxRecDepth 20000 in
set_option maxHeartbeats 4000000 in
theorem w_X10_either_3 {c : rX} {d : Nat} {S : rS} {K : Option Value → rS → Prop} (ho : rOK c) {kp0 fp0 np0 : Nat} (hp0 : rT[kp0]? = some (fp0, 21, np0)) (v1 : Int32) {kp2 fp2 np2 : Nat} (hp2 : rT[kp2]? = some (fp2, 21, np2)) (v3 : Int32) (v4 : Int32) (h : (5 ≤ v4 → (K none S)) ∧ (¬ 5 ≤ v4 → (∃ j2 : Nat, am_ix (v1 + v4) j2 np0 ∧ (∃ j4 : Nat, am_ix (v3 + v4) j4 np2 ∧ (∃ j6 : Nat, am_ix (v1 + v4) j6 np0 ∧ (rG c eX10_either d (rQ c K) 3 [some (.ref (c.2.2.1 + (kp0 + 1))), some (.int v1), some (.ref (c.2.2.1 + (kp2 + 1))), some (.int v3), some (.int (v4 + 1))] [] (rsj S fp0 j6 ((S.2 fp0 j2) ||| (S.2 fp2 j4))))))))) : rG c eX10_either d (rQ c K) 3 [some (.ref (c.2.2.1 + (kp0 + 1))), some (.int v1), some (.ref (c.2.2.1 + (kp2 + 1))), some (.int v3), some (.int v4)] [] S := by
  refine ag_iload dX10_either_3 rfl ?_
  refine ag_iconst (v := 5) dX10_either_5 rfl ?_
  refine ag_icmp_ge (tgt := 30) dX10_either_6 rfl (fun hc1 => ?_) (fun hc1 => ?_)
  · have h := h.1 hc1
    exact ag_ret (v := none) dX10_either_30 rfl ⟨_, rfl, _, rfl, h⟩ rfl
  · have h := h.2 hc1
    refine ag_aload_n dX10_either_9 rfl (Or.inr ⟨_, rfl⟩) ?_
    refine ag_iload_n dX10_either_10 rfl ?_
    refine ag_iload dX10_either_11 rfl ?_
    refine ag_iadd dX10_either_13 rfl ?_
    refine ag_dup2 dX10_either_14 rfl rfl ?_
    obtain ⟨j2, hj3, h⟩ := h
    refine rr_ll (v := S.2 fp0 j2) ho dX10_either_15 hp0 hj3 rfl ?_
    refine ag_aload_n dX10_either_16 rfl (Or.inr ⟨_, rfl⟩) ?_
    refine ag_iload_n dX10_either_17 rfl ?_
    refine ag_iload dX10_either_18 rfl ?_
    refine ag_iadd dX10_either_20 rfl ?_
    obtain ⟨j4, hj5, h⟩ := h
    refine rr_ll (v := S.2 fp2 j4) ho dX10_either_21 hp2 hj5 rfl ?_
    refine ag_lor dX10_either_22 rfl ?_
    obtain ⟨j6, hj7, h⟩ := h
    refine rr_ls (S2 := (rsj S fp0 j6 ((S.2 fp0 j2) ||| (S.2 fp2 j4)))) ho dX10_either_23 hp0 hj7 rfl ?_
    refine ag_iinc (v2 := (v4 + 1)) (lv2 := [some (.ref (c.2.2.1 + (kp0 + 1))), some (.int v1), some (.ref (c.2.2.1 + (kp2 + 1))), some (.int v3), some (.int (v4 + 1))]) dX10_either_24 rfl rfl rfl ?_
    refine ag_goto (tgt := 3) dX10_either_27 rfl ?_
    exact h
theorem dX10_settle_0 : decode cX10_settle 0 = .ok (.aload_n 0, 1) := by decide +kernel
theorem dX10_settle_1 : decode cX10_settle 1 = .ok (.iload_n 1, 1) := by decide +kernel
theorem dX10_settle_2 : decode cX10_settle 2 = .ok (.invokestatic 211, 3) := by decide +kernel
theorem dX10_settle_5 : decode cX10_settle 5 = .ok (.ifCond .eq 8, 3) := by decide +kernel
theorem dX10_settle_8 : decode cX10_settle 8 = .ok (.aload_n 0, 1) := by decide +kernel
theorem dX10_settle_9 : decode cX10_settle 9 = .ok (.iload_n 1, 1) := by decide +kernel
theorem dX10_settle_10 : decode cX10_settle 10 = .ok (.invokestatic 215, 3) := by decide +kernel
theorem dX10_settle_13 : decode cX10_settle 13 = .ok (.return_, 1) := by decide +kernel
set_option maxRecDepth 20000 in
set_option maxHeartbeats 4000000 in
theorem w_X10_settle {c : rX} {d : Nat} {S : rS} {K : Option Value → rS → Prop} (ho : rOK c) {kp0 fp0 np0 : Nat} (hp0 : rT[kp0]? = some (fp0, 21, np0)) (p1 : Int32) (h : rM c d eX10_isImpossible [.ref (c.2.2.1 + (kp0 + 1)), .int p1] S (fun v S1 => ∃ z2 : Int32, v = some (.int z2) ∧ ((z2 = 0 → (K none S1)) ∧ (¬ z2 = 0 → (rM c d eX10_clear [.ref (c.2.2.1 + (kp0 + 1)), .int p1] S1 (fun v S4 => v = none ∧ (K none S4))))))) : rM c (d + 1) eX10_settle [.ref (c.2.2.1 + (kp0 + 1)), .int p1] S K := by
  refine rM.of (by decide) (Nat.le_of_ble_eq_true rfl) ?_
  show rG c eX10_settle (d + 1) (rQ c K) 0 [some (.ref (c.2.2.1 + (kp0 + 1))), some (.int p1)] [] S
  refine ag_aload_n dX10_settle_0 rfl (Or.inr ⟨_, rfl⟩) ?_
  refine ag_iload_n dX10_settle_1 rfl ?_
  refine rr_calls (as := [.ref (c.2.2.1 + (kp0 + 1)), .int p1]) (rest := []) dX10_settle_2 me_X10_isImpossible ms_X10_isImpossible lk_10_211 rfl rfl (Nat.le_of_ble_eq_true rfl) ?_
  refine rM.mono h ?_
  rintro v S1 ⟨z2, rfl, h⟩
  show rG _ _ _ _ _ _ [.int z2] _
  refine ag_if_eq (tgt := 13) dX10_settle_5 rfl (fun hc3 => ?_) (fun hc3 => ?_)
  · have h := h.1 hc3
    exact ag_ret (v := none) dX10_settle_13 rfl ⟨_, rfl, _, rfl, h⟩ rfl
  · have h := h.2 hc3
    refine ag_aload_n dX10_settle_8 rfl (Or.inr ⟨_, rfl⟩) ?_
    refine ag_iload_n dX10_settle_9 rfl ?_
    refine rr_calls (as := [.ref (c.2.2.1 + (kp0 + 1)), .int p1]) (rest := []) dX10_settle_10 me_X10_clear ms_X10_clear lk_10_215 rfl rfl (Nat.le_of_ble_eq_true rfl) ?_
    refine rM.mono h ?_
    rintro v S4 ⟨rfl, h⟩
    show rG _ _ _ _ _ _ [] _
    exact ag_ret (v := none) dX10_settle_13 rfl ⟨_, rfl, _, rfl, h⟩ rfl
theorem dX10_further_0 : decode cX10_further 0 = .ok (.iload_n 0, 1) := by decide +kernel
theorem dX10_further_1 : decode cX10_further 1 = .ok (.bipush 7, 2) := by decide +kernel
theorem dX10_further_3 : decode cX10_further 3 = .ok (.irem, 1) := by decide +kernel
theorem dX10_further_4 : decode cX10_further 4 = .ok (.istore_n 2, 1) := by decide +kernel
theorem dX10_further_5 : decode cX10_further 5 = .ok (.iload_n 0, 1) := by decide +kernel
theorem dX10_further_6 : decode cX10_further 6 = .ok (.iconst (-1), 1) := by decide +kernel
theorem dX10_further_7 : decode cX10_further 7 = .ok (.if_icmp .eq 8, 3) := by decide +kernel
theorem dX10_further_10 : decode cX10_further 10 = .ok (.iload_n 2, 1) := by decide +kernel
theorem dX10_further_11 : decode cX10_further 11 = .ok (.iconst 2, 1) := by decide +kernel
theorem dX10_further_12 : decode cX10_further 12 = .ok (.if_icmp .le 5, 3) := by decide +kernel
theorem dX10_further_15 : decode cX10_further 15 = .ok (.iconst (-1), 1) := by decide +kernel
theorem dX10_further_16 : decode cX10_further 16 = .ok (.ireturn, 1) := by decide +kernel
theorem dX10_further_17 : decode cX10_further 17 = .ok (.iload_n 0, 1) := by decide +kernel
theorem dX10_further_18 : decode cX10_further 18 = .ok (.iload_n 2, 1) := by decide +kernel
theorem dX10_further_19 : decode cX10_further 19 = .ok (.isub, 1) := by decide +kernel
theorem dX10_further_20 : decode cX10_further 20 = .ok (.iload_n 2, 1) := by decide +kernel
theorem dX10_further_21 : decode cX10_further 21 = .ok (.ifCond .ne 15, 3) := by decide +kernel
theorem dX10_further_24 : decode cX10_further 24 = .ok (.iload_n 1, 1) := by decide +kernel
theorem dX10_further_25 : decode cX10_further 25 = .ok (.ifCond .eq 7, 3) := by decide +kernel
theorem dX10_further_28 : decode cX10_further 28 = .ok (.iconst 1, 1) := by decide +kernel
theorem dX10_further_29 : decode cX10_further 29 = .ok (.goto 22, 3) := by decide +kernel
theorem dX10_further_32 : decode cX10_further 32 = .ok (.iconst 2, 1) := by decide +kernel
theorem dX10_further_33 : decode cX10_further 33 = .ok (.goto 18, 3) := by decide +kernel
theorem dX10_further_36 : decode cX10_further 36 = .ok (.iconst 1, 1) := by decide +kernel
theorem dX10_further_37 : decode cX10_further 37 = .ok (.iconst 2, 1) := by decide +kernel
theorem dX10_further_38 : decode cX10_further 38 = .ok (.iload_n 2, 1) := by decide +kernel
theorem dX10_further_39 : decode cX10_further 39 = .ok (.imul, 1) := by decide +kernel
theorem dX10_further_40 : decode cX10_further 40 = .ok (.iadd, 1) := by decide +kernel
theorem dX10_further_41 : decode cX10_further 41 = .ok (.iload_n 1, 1) := by decide +kernel
theorem dX10_further_42 : decode cX10_further 42 = .ok (.ifCond .eq 7, 3) := by decide +kernel
theorem dX10_further_45 : decode cX10_further 45 = .ok (.iconst 0, 1) := by decide +kernel
theorem dX10_further_46 : decode cX10_further 46 = .ok (.goto 4, 3) := by decide +kernel
theorem dX10_further_49 : decode cX10_further 49 = .ok (.iconst 1, 1) := by decide +kernel
theorem dX10_further_50 : decode cX10_further 50 = .ok (.iadd, 1) := by decide +kernel
theorem dX10_further_51 : decode cX10_further 51 = .ok (.iadd, 1) := by decide +kernel
theorem dX10_further_52 : decode cX10_further 52 = .ok (.ireturn, 1) := by decide +kernel
set_option maxRecDepth 20000 in
set_option maxHeartbeats 4000000 in
theorem w_X10_further {c : rX} {d : Nat} {S : rS} {K : Option Value → rS → Prop} (ho : rOK c) (p0 : Int32) (p1 : Int32) (h : (p0 = (-1) → (K (some (.int (-1))) S)) ∧ (¬ p0 = (-1) → (((p0 - p0 / 7 * 7) ≤ 2 → ((¬ (p0 - p0 / 7 * 7) = 0 → ((p1 = 0 → (K (some (.int ((p0 - (p0 - p0 / 7 * 7)) + ((1 + (2 * (p0 - p0 / 7 * 7))) + 1)))) S)) ∧ (¬ p1 = 0 → (K (some (.int ((p0 - (p0 - p0 / 7 * 7)) + ((1 + (2 * (p0 - p0 / 7 * 7))) + 0)))) S)))) ∧ ((p0 - p0 / 7 * 7) = 0 → ((p1 = 0 → (K (some (.int ((p0 - (p0 - p0 / 7 * 7)) + 2))) S)) ∧ (¬ p1 = 0 → (K (some (.int ((p0 - (p0 - p0 / 7 * 7)) + 1))) S)))))) ∧ (¬ (p0 - p0 / 7 * 7) ≤ 2 → (K (some (.int (-1))) S))))) : rM c d eX10_further [.int p0, .int p1] S K := by
  refine rM.of (by decide) (Nat.le_of_ble_eq_true rfl) ?_
  show rG c eX10_further d (rQ c K) 0 [some (.int p0), some (.int p1), none] [] S
  refine ag_iload_n dX10_further_0 rfl ?_
  refine ag_bipush (v := 7) dX10_further_1 (by decide) ?_
  refine ag_irem dX10_further_3 (by decide) rfl ?_
  refine ag_istore_n (lv2 := [some (.int p0), some (.int p1), some (.int (p0 - p0 / 7 * 7))]) dX10_further_4 (Nat.le_of_ble_eq_true rfl) rfl ?_
  refine ag_iload_n dX10_further_5 rfl ?_
  refine ag_iconst (v := (-1)) dX10_further_6 rfl ?_
  refine ag_icmp_eq (tgt := 15) dX10_further_7 rfl (fun hc1 => ?_) (fun hc1 => ?_)
  · have h := h.1 hc1
    refine ag_iconst (v := (-1)) dX10_further_15 rfl ?_
    exact ag_ret (v := some (.int (-1))) dX10_further_16 ⟨_, rfl, rfl⟩ ⟨_, rfl, _, rfl, h⟩ rfl
  · have h := h.2 hc1
    refine ag_iload_n dX10_further_10 rfl ?_
    refine ag_iconst (v := 2) dX10_further_11 rfl ?_
    refine ag_icmp_le (tgt := 17) dX10_further_12 rfl (fun hc2 => ?_) (fun hc2 => ?_)
    · have h := h.1 hc2
      refine ag_iload_n dX10_further_17 rfl ?_
      refine ag_iload_n dX10_further_18 rfl ?_
      refine ag_isub dX10_further_19 rfl ?_
      refine ag_iload_n dX10_further_20 rfl ?_
      refine ag_if_ne (tgt := 36) dX10_further_21 rfl (fun hc3 => ?_) (fun hc3 => ?_)
      · have h := h.1 hc3
        refine ag_iconst (v := 1) dX10_further_36 rfl ?_
        refine ag_iconst (v := 2) dX10_further_37 rfl ?_
        refine ag_iload_n dX10_further_38 rfl ?_
        refine ag_imul dX10_further_39 rfl ?_
        refine ag_iadd dX10_further_40 rfl ?_
        refine ag_iload_n dX10_further_41 rfl ?_
        refine ag_if_eq (tgt := 49) dX10_further_42 rfl (fun hc4 => ?_) (fun hc4 => ?_)
        · have h := h.1 hc4
          refine ag_iconst (v := 1) dX10_further_49 rfl ?_
          refine ag_iadd dX10_further_50 rfl ?_
          refine ag_iadd dX10_further_51 rfl ?_
          exact ag_ret (v := some (.int ((p0 - (p0 - p0 / 7 * 7)) + ((1 + (2 * (p0 - p0 / 7 * 7))) + 1)))) dX10_further_52 ⟨_, rfl, rfl⟩ ⟨_, rfl, _, rfl, h⟩ rfl
        · have h := h.2 hc4
          refine ag_iconst (v := 0) dX10_further_45 rfl ?_
          refine ag_goto (tgt := 50) dX10_further_46 rfl ?_
          refine ag_iadd dX10_further_50 rfl ?_
          refine ag_iadd dX10_further_51 rfl ?_
          exact ag_ret (v := some (.int ((p0 - (p0 - p0 / 7 * 7)) + ((1 + (2 * (p0 - p0 / 7 * 7))) + 0)))) dX10_further_52 ⟨_, rfl, rfl⟩ ⟨_, rfl, _, rfl, h⟩ rfl
      · have h := h.2 hc3
        refine ag_iload_n dX10_further_24 rfl ?_
        refine ag_if_eq (tgt := 32) dX10_further_25 rfl (fun hc5 => ?_) (fun hc5 => ?_)
        · have h := h.1 hc5
          refine ag_iconst (v := 2) dX10_further_32 rfl ?_
          refine ag_goto (tgt := 51) dX10_further_33 rfl ?_
          refine ag_iadd dX10_further_51 rfl ?_
          exact ag_ret (v := some (.int ((p0 - (p0 - p0 / 7 * 7)) + 2))) dX10_further_52 ⟨_, rfl, rfl⟩ ⟨_, rfl, _, rfl, h⟩ rfl
        · have h := h.2 hc5
          refine ag_iconst (v := 1) dX10_further_28 rfl ?_
          refine ag_goto (tgt := 51) dX10_further_29 rfl ?_
          refine ag_iadd dX10_further_51 rfl ?_
          exact ag_ret (v := some (.int ((p0 - (p0 - p0 / 7 * 7)) + 1))) dX10_further_52 ⟨_, rfl, rfl⟩ ⟨_, rfl, _, rfl, h⟩ rfl
    · have h := h.2 hc2
      refine ag_iconst (v := (-1)) dX10_further_15 rfl ?_
      exact ag_ret (v := some (.int (-1))) dX10_further_16 ⟨_, rfl, rfl⟩ ⟨_, rfl, _, rfl, h⟩ rfl
theorem dX10_five_0 : decode cX10_five 0 = .ok (.iconst 5, 1) := by decide +kernel
theorem dX10_five_1 : decode cX10_five 1 = .ok (.iload_n 1, 1) := by decide +kernel
theorem dX10_five_2 : decode cX10_five 2 = .ok (.bipush 64, 2) := by decide +kernel
theorem dX10_five_4 : decode cX10_five 4 = .ok (.irem, 1) := by decide +kernel
theorem dX10_five_5 : decode cX10_five 5 = .ok (.imul, 1) := by decide +kernel
theorem dX10_five_6 : decode cX10_five 6 = .ok (.ireturn, 1) := by decide +kernel
set_option maxRecDepth 20000 in
set_option maxHeartbeats 4000000 in
theorem w_X10_five {c : rX} {d : Nat} {S : rS} {K : Option Value → rS → Prop} (ho : rOK c) (p0 : Int32) (h : K (some (.int (5 * (p0 - p0 / 64 * 64)))) S) : rM c d eX10_five [.ref c.2.2.1, .int p0] S K := by
  refine rM.of (by decide) (Nat.le_of_ble_eq_true rfl) ?_
  show rG c eX10_five d (rQ c K) 0 [some (.ref c.2.2.1), some (.int p0)] [] S
  refine ag_iconst (v := 5) dX10_five_0 rfl ?_
  refine ag_iload_n dX10_five_1 rfl ?_
  refine ag_bipush (v := 64) dX10_five_2 (by decide) ?_
  refine ag_irem dX10_five_4 (by decide) rfl ?_
  refine ag_imul dX10_five_5 rfl ?_
  exact ag_ret (v := some (.int (5 * (p0 - p0 / 64 * 64)))) dX10_five_6 ⟨_, rfl, rfl⟩ ⟨_, rfl, _, rfl, h⟩ rfl
theorem dX10_finish_0 : decode cX10_finish 0 = .ok (.aload_n 0, 1) := by decide +kernel
theorem dX10_finish_1 : decode cX10_finish 1 = .ok (.iload_n 1, 1) := by decide +kernel
theorem dX10_finish_2 : decode cX10_finish 2 = .ok (.invokevirtual 219, 3) := by decide +kernel
theorem dX10_finish_5 : decode cX10_finish 5 = .ok (.istore 4, 2) := by decide +kernel
theorem dX10_finish_7 : decode cX10_finish 7 = .ok (.aload_n 0, 1) := by decide +kernel
theorem dX10_finish_8 : decode cX10_finish 8 = .ok (.getfield 76, 3) := by decide +kernel
theorem dX10_finish_11 : decode cX10_finish 11 = .ok (.iload_n 1, 1) := by decide +kernel
theorem dX10_finish_12 : decode cX10_finish 12 = .ok (.bipush 64, 2) := by decide +kernel
theorem dX10_finish_14 : decode cX10_finish 14 = .ok (.irem, 1) := by decide +kernel
theorem dX10_finish_15 : decode cX10_finish 15 = .ok (.iload_n 2, 1) := by decide +kernel
theorem dX10_finish_16 : decode cX10_finish 16 = .ok (.iastore, 1) := by decide +kernel
theorem dX10_finish_17 : decode cX10_finish 17 = .ok (.aload_n 0, 1) := by decide +kernel
theorem dX10_finish_18 : decode cX10_finish 18 = .ok (.getfield 79, 3) := by decide +kernel
theorem dX10_finish_21 : decode cX10_finish 21 = .ok (.iload_n 1, 1) := by decide +kernel
theorem dX10_finish_22 : decode cX10_finish 22 = .ok (.bipush 64, 2) := by decide +kernel
theorem dX10_finish_24 : decode cX10_finish 24 = .ok (.irem, 1) := by decide +kernel
theorem dX10_finish_25 : decode cX10_finish 25 = .ok (.iload_n 3, 1) := by decide +kernel
theorem dX10_finish_26 : decode cX10_finish 26 = .ok (.iastore, 1) := by decide +kernel
theorem dX10_finish_27 : decode cX10_finish 27 = .ok (.aload_n 0, 1) := by decide +kernel
theorem dX10_finish_28 : decode cX10_finish 28 = .ok (.getfield 97, 3) := by decide +kernel
theorem dX10_finish_31 : decode cX10_finish 31 = .ok (.iconst 0, 1) := by decide +kernel
theorem dX10_finish_32 : decode cX10_finish 32 = .ok (.aload_n 0, 1) := by decide +kernel
theorem dX10_finish_33 : decode cX10_finish 33 = .ok (.getfield 70, 3) := by decide +kernel
theorem dX10_finish_36 : decode cX10_finish 36 = .ok (.iload 4, 2) := by decide +kernel
theorem dX10_finish_38 : decode cX10_finish 38 = .ok (.invokestatic 222, 3) := by decide +kernel
theorem dX10_finish_41 : decode cX10_finish 41 = .ok (.aload_n 0, 1) := by decide +kernel
theorem dX10_finish_42 : decode cX10_finish 42 = .ok (.getfield 100, 3) := by decide +kernel
theorem dX10_finish_45 : decode cX10_finish 45 = .ok (.iconst 0, 1) := by decide +kernel
theorem dX10_finish_46 : decode cX10_finish 46 = .ok (.aload_n 0, 1) := by decide +kernel
theorem dX10_finish_47 : decode cX10_finish 47 = .ok (.getfield 73, 3) := by decide +kernel
theorem dX10_finish_50 : decode cX10_finish 50 = .ok (.iload 4, 2) := by decide +kernel
theorem dX10_finish_52 : decode cX10_finish 52 = .ok (.invokestatic 222, 3) := by decide +kernel
theorem dX10_finish_55 : decode cX10_finish 55 = .ok (.iload_n 2, 1) := by decide +kernel
theorem dX10_finish_56 : decode cX10_finish 56 = .ok (.iconst 4, 1) := by decide +kernel
theorem dX10_finish_57 : decode cX10_finish 57 = .ok (.iand, 1) := by decide +kernel
theorem dX10_finish_58 : decode cX10_finish 58 = .ok (.ifCond .ne 12, 3) := by decide +kernel
theorem dX10_finish_61 : decode cX10_finish 61 = .ok (.aload_n 0, 1) := by decide +kernel
theorem dX10_finish_62 : decode cX10_finish 62 = .ok (.getfield 73, 3) := by decide +kernel
theorem dX10_finish_65 : decode cX10_finish 65 = .ok (.iload 4, 2) := by decide +kernel
theorem dX10_finish_67 : decode cX10_finish 67 = .ok (.invokestatic 215, 3) := by decide +kernel
theorem dX10_finish_70 : decode cX10_finish 70 = .ok (.iload_n 2, 1) := by decide +kernel
theorem dX10_finish_71 : decode cX10_finish 71 = .ok (.bipush (-5), 2) := by decide +kernel
theorem dX10_finish_73 : decode cX10_finish 73 = .ok (.iand, 1) := by decide +kernel
theorem dX10_finish_74 : decode cX10_finish 74 = .ok (.ifCond .ne 12, 3) := by decide +kernel
theorem dX10_finish_77 : decode cX10_finish 77 = .ok (.aload_n 0, 1) := by decide +kernel
theorem dX10_finish_78 : decode cX10_finish 78 = .ok (.getfield 70, 3) := by decide +kernel
theorem dX10_finish_81 : decode cX10_finish 81 = .ok (.iload 4, 2) := by decide +kernel
theorem dX10_finish_83 : decode cX10_finish 83 = .ok (.invokestatic 215, 3) := by decide +kernel
theorem dX10_finish_86 : decode cX10_finish 86 = .ok (.aload_n 0, 1) := by decide +kernel
theorem dX10_finish_87 : decode cX10_finish 87 = .ok (.getfield 70, 3) := by decide +kernel
theorem dX10_finish_90 : decode cX10_finish 90 = .ok (.iload 4, 2) := by decide +kernel
theorem dX10_finish_92 : decode cX10_finish 92 = .ok (.invokestatic 226, 3) := by decide +kernel
theorem dX10_finish_95 : decode cX10_finish 95 = .ok (.aload_n 0, 1) := by decide +kernel
theorem dX10_finish_96 : decode cX10_finish 96 = .ok (.getfield 73, 3) := by decide +kernel
theorem dX10_finish_99 : decode cX10_finish 99 = .ok (.iload 4, 2) := by decide +kernel
theorem dX10_finish_101 : decode cX10_finish 101 = .ok (.invokestatic 226, 3) := by decide +kernel
theorem dX10_finish_104 : decode cX10_finish 104 = .ok (.return_, 1) := by decide +kernel
set_option maxRecDepth 20000 in
set_option maxHeartbeats 4000000 in
theorem w_X10_finish {c : rX} {d : Nat} {S : rS} {K : Option Value → rS → Prop} (ho : rOK c) (p0 : Int32) (p1 : Int32) (p2 : Int32) (h : rM c d eX10_five (.ref c.2.2.1 :: [.int p0]) S (fun v S1 => ∃ z2 : Int32, v = some (.int z2) ∧ (∃ j3 : Nat, am_ix (p0 - p0 / 64 * 64) j3 64 ∧ (∃ j5 : Nat, am_ix (p0 - p0 / 64 * 64) j5 64 ∧ (rM c d eX10_copy [.ref (c.2.2.1 + (27 + 1)), .int 0, .ref (c.2.2.1 + (18 + 1)), .int z2] (rsi (rsi S1 29 j3 p1) 30 j5 p2) (fun v S7 => v = none ∧ (rM c d eX10_copy [.ref (c.2.2.1 + (28 + 1)), .int 0, .ref (c.2.2.1 + (19 + 1)), .int z2] S7 (fun v S9 => v = none ∧ ((¬ (p1 &&& 4) = 0 → ((¬ (p1 &&& (-5)) = 0 → (rG c eX10_finish (d + 1) (rQ c K) 86 [some (.ref c.2.2.1), none, none, none, some (.int z2)] [] S9)) ∧ ((p1 &&& (-5)) = 0 → (rM c d eX10_clear [.ref (c.2.2.1 + (18 + 1)), .int z2] S9 (fun v S13 => v = none ∧ (rG c eX10_finish (d + 1) (rQ c K) 86 [some (.ref c.2.2.1), none, none, none, some (.int z2)] [] S13)))))) ∧ ((p1 &&& 4) = 0 → (rM c d eX10_clear [.ref (c.2.2.1 + (19 + 1)), .int z2] S9 (fun v S15 => v = none ∧ ((¬ (p1 &&& (-5)) = 0 → (rG c eX10_finish (d + 1) (rQ c K) 86 [some (.ref c.2.2.1), none, none, none, some (.int z2)] [] S15)) ∧ ((p1 &&& (-5)) = 0 → (rM c d eX10_clear [.ref (c.2.2.1 + (18 + 1)), .int z2] S15 (fun v S18 => v = none ∧ (rG c eX10_finish (d + 1) (rQ c K) 86 [some (.ref c.2.2.1), none, none, none, some (.int z2)] [] S18))))))))))))))))) : rM c (d + 1) eX10_finish [.ref c.2.2.1, .int p0, .int p1, .int p2] S K := by
  refine rM.of (by decide) (Nat.le_of_ble_eq_true rfl) ?_
  show rG c eX10_finish (d + 1) (rQ c K) 0 [some (.ref c.2.2.1), some (.int p0), some (.int p1), some (.int p2), none] [] S
  refine ag_aload_n dX10_finish_0 rfl (Or.inr ⟨_, rfl⟩) ?_
  refine ag_iload_n dX10_finish_1 rfl ?_
  refine rr_call (as := [.int p0]) (rest := []) ho dX10_finish_2 me_X10_five mi_X10_five lk_10_219 rfl rfl (Nat.le_of_ble_eq_true rfl) ?_
  refine rM.mono h ?_
  rintro v S1 ⟨z2, rfl, h⟩
  show rG _ _ _ _ _ _ [.int z2] _
  refine ag_istore (lv2 := [some (.ref c.2.2.1), some (.int p0), some (.int p1), some (.int p2), some (.int z2)]) dX10_finish_5 (Nat.le_of_ble_eq_true rfl) rfl ?_
  refine ag_aload_n dX10_finish_7 rfl (Or.inr ⟨_, rfl⟩) ?_
  refine rr_get (v := .ref (c.2.2.1 + (20 + 1))) ho dX10_finish_8 fw_10_76 rfl ?_
  refine ag_iload_n dX10_finish_11 rfl ?_
  refine ag_bipush (v := 64) dX10_finish_12 (by decide) ?_
  refine ag_irem dX10_finish_14 (by decide) rfl ?_
  refine ag_iload_n dX10_finish_15 rfl ?_
  obtain ⟨j3, hj4, h⟩ := h
  refine rr_is (S2 := (rsi S1 29 j3 p1)) ho dX10_finish_16 (k := 20) (f := 29) rfl hj4 rfl ?_
  refine ag_aload_n dX10_finish_17 rfl (Or.inr ⟨_, rfl⟩) ?_
  refine rr_get (v := .ref (c.2.2.1 + (21 + 1))) ho dX10_finish_18 fw_10_79 rfl ?_
  refine ag_iload_n dX10_finish_21 rfl ?_
  refine ag_bipush (v := 64) dX10_finish_22 (by decide) ?_
  refine ag_irem dX10_finish_24 (by decide) rfl ?_
  refine ag_iload_n dX10_finish_25 rfl ?_
  obtain ⟨j5, hj6, h⟩ := h
  refine rr_is (S2 := (rsi (rsi S1 29 j3 p1) 30 j5 p2)) ho dX10_finish_26 (k := 21) (f := 30) rfl hj6 rfl ?_
  refine ag_aload_n dX10_finish_27 rfl (Or.inr ⟨_, rfl⟩) ?_
  refine rr_get (v := .ref (c.2.2.1 + (27 + 1))) ho dX10_finish_28 fw_10_97 rfl ?_
  refine ag_iconst (v := 0) dX10_finish_31 rfl ?_
  refine ag_aload_n dX10_finish_32 rfl (Or.inr ⟨_, rfl⟩) ?_
  refine rr_get (v := .ref (c.2.2.1 + (18 + 1))) ho dX10_finish_33 fw_10_70 rfl ?_
  refine ag_iload dX10_finish_36 rfl ?_
  refine rr_calls (as := [.ref (c.2.2.1 + (27 + 1)), .int 0, .ref (c.2.2.1 + (18 + 1)), .int z2]) (rest := []) dX10_finish_38 me_X10_copy ms_X10_copy lk_10_222 rfl rfl (Nat.le_of_ble_eq_true rfl) ?_
  refine rM.mono h ?_
  rintro v S7 ⟨rfl, h⟩
  show rG _ _ _ _ _ _ [] _
  refine ag_aload_n dX10_finish_41 rfl (Or.inr ⟨_, rfl⟩) ?_
  refine rr_get (v := .ref (c.2.2.1 + (28 + 1))) ho dX10_finish_42 fw_10_100 rfl ?_
  refine ag_iconst (v := 0) dX10_finish_45 rfl ?_
  refine ag_aload_n dX10_finish_46 rfl (Or.inr ⟨_, rfl⟩) ?_
  refine rr_get (v := .ref (c.2.2.1 + (19 + 1))) ho dX10_finish_47 fw_10_73 rfl ?_
  refine ag_iload dX10_finish_50 rfl ?_
  refine rr_calls (as := [.ref (c.2.2.1 + (28 + 1)), .int 0, .ref (c.2.2.1 + (19 + 1)), .int z2]) (rest := []) dX10_finish_52 me_X10_copy ms_X10_copy lk_10_222 rfl rfl (Nat.le_of_ble_eq_true rfl) ?_
  refine rM.mono h ?_
  rintro v S9 ⟨rfl, h⟩
  show rG _ _ _ _ _ _ [] _
  refine ag_iload_n dX10_finish_55 rfl ?_
  refine ag_iconst (v := 4) dX10_finish_56 rfl ?_
  refine ag_iand dX10_finish_57 rfl ?_
  refine ag_if_ne (tgt := 70) dX10_finish_58 rfl (fun hc11 => ?_) (fun hc11 => ?_)
  · have h := h.1 hc11
    refine ag_iload_n dX10_finish_70 rfl ?_
    refine ag_bipush (v := (-5)) dX10_finish_71 (by decide) ?_
    refine ag_iand dX10_finish_73 rfl ?_
    refine ag_if_ne (tgt := 86) dX10_finish_74 rfl (fun hc12 => ?_) (fun hc12 => ?_)
    · have h := h.1 hc12
      refine ag_drop 1 ?_
      refine ag_drop 2 ?_
      refine ag_drop 3 ?_
      exact h
    · have h := h.2 hc12
      refine ag_aload_n dX10_finish_77 rfl (Or.inr ⟨_, rfl⟩) ?_
      refine rr_get (v := .ref (c.2.2.1 + (18 + 1))) ho dX10_finish_78 fw_10_70 rfl ?_
      refine ag_iload dX10_finish_81 rfl ?_
      refine rr_calls (as := [.ref (c.2.2.1 + (18 + 1)), .int z2]) (rest := []) dX10_finish_83 me_X10_clear ms_X10_clear lk_10_215 rfl rfl (Nat.le_of_ble_eq_true rfl) ?_
      refine rM.mono h ?_
      rintro v S13 ⟨rfl, h⟩
      show rG _ _ _ _ _ _ [] _
      refine ag_drop 1 ?_
      refine ag_drop 2 ?_
      refine ag_drop 3 ?_
      exact h
  · have h := h.2 hc11
    refine ag_aload_n dX10_finish_61 rfl (Or.inr ⟨_, rfl⟩) ?_
    refine rr_get (v := .ref (c.2.2.1 + (19 + 1))) ho dX10_finish_62 fw_10_73 rfl ?_
    refine ag_iload dX10_finish_65 rfl ?_
    refine rr_calls (as := [.ref (c.2.2.1 + (19 + 1)), .int z2]) (rest := []) dX10_finish_67 me_X10_clear ms_X10_clear lk_10_215 rfl rfl (Nat.le_of_ble_eq_true rfl) ?_
    refine rM.mono h ?_
    rintro v S15 ⟨rfl, h⟩
    show rG _ _ _ _ _ _ [] _
    refine ag_iload_n dX10_finish_70 rfl ?_
    refine ag_bipush (v := (-5)) dX10_finish_71 (by decide) ?_
    refine ag_iand dX10_finish_73 rfl ?_
    refine ag_if_ne (tgt := 86) dX10_finish_74 rfl (fun hc17 => ?_) (fun hc17 => ?_)
    · have h := h.1 hc17
      refine ag_drop 1 ?_
      refine ag_drop 2 ?_
      refine ag_drop 3 ?_
      exact h
    · have h := h.2 hc17
      refine ag_aload_n dX10_finish_77 rfl (Or.inr ⟨_, rfl⟩) ?_
      refine rr_get (v := .ref (c.2.2.1 + (18 + 1))) ho dX10_finish_78 fw_10_70 rfl ?_
      refine ag_iload dX10_finish_81 rfl ?_
      refine rr_calls (as := [.ref (c.2.2.1 + (18 + 1)), .int z2]) (rest := []) dX10_finish_83 me_X10_clear ms_X10_clear lk_10_215 rfl rfl (Nat.le_of_ble_eq_true rfl) ?_
      refine rM.mono h ?_
      rintro v S18 ⟨rfl, h⟩
      show rG _ _ _ _ _ _ [] _
      refine ag_drop 1 ?_
      refine ag_drop 2 ?_
      refine ag_drop 3 ?_
      exact h
set_option maxRecDepth 20000 in
set_option maxHeartbeats 4000000 in
theorem w_X10_finish_86 {c : rX} {d : Nat} {S : rS} {K : Option Value → rS → Prop} (ho : rOK c) (v4 : Int32) (h : rM c d eX10_settle [.ref (c.2.2.1 + (18 + 1)), .int v4] S (fun v S1 => v = none ∧ (rM c d eX10_settle [.ref (c.2.2.1 + (19 + 1)), .int v4] S1 (fun v S3 => v = none ∧ (K none S3))))) : rG c eX10_finish (d + 1) (rQ c K) 86 [some (.ref c.2.2.1), none, none, none, some (.int v4)] [] S := by
  refine ag_aload_n dX10_finish_86 rfl (Or.inr ⟨_, rfl⟩) ?_
  refine rr_get (v := .ref (c.2.2.1 + (18 + 1))) ho dX10_finish_87 fw_10_70 rfl ?_
  refine ag_iload dX10_finish_90 rfl ?_
  refine rr_calls (as := [.ref (c.2.2.1 + (18 + 1)), .int v4]) (rest := []) dX10_finish_92 me_X10_settle ms_X10_settle lk_10_226 rfl rfl (Nat.le_of_ble_eq_true rfl) ?_
  refine rM.mono h ?_
  rintro v S1 ⟨rfl, h⟩
  show rG _ _ _ _ _ _ [] _
  refine ag_aload_n dX10_finish_95 rfl (Or.inr ⟨_, rfl⟩) ?_
  refine rr_get (v := .ref (c.2.2.1 + (19 + 1))) ho dX10_finish_96 fw_10_73 rfl ?_
  refine ag_iload dX10_finish_99 rfl ?_
  refine rr_calls (as := [.ref (c.2.2.1 + (19 + 1)), .int v4]) (rest := []) dX10_finish_101 me_X10_settle ms_X10_settle lk_10_226 rfl rfl (Nat.le_of_ble_eq_true rfl) ?_
  refine rM.mono h ?_
  rintro v S3 ⟨rfl, h⟩
  show rG _ _ _ _ _ _ [] _
  exact ag_ret (v := none) dX10_finish_104 rfl ⟨_, rfl, _, rfl, h⟩ rfl
theorem dX10_typeOf_0 : decode cX10_typeOf 0 = .ok (.aload_n 0, 1) := by decide +kernel
theorem dX10_typeOf_1 : decode cX10_typeOf 1 = .ok (.getfield 76, 3) := by decide +kernel
theorem dX10_typeOf_4 : decode cX10_typeOf 4 = .ok (.iload_n 1, 1) := by decide +kernel
theorem dX10_typeOf_5 : decode cX10_typeOf 5 = .ok (.bipush 64, 2) := by decide +kernel
theorem dX10_typeOf_7 : decode cX10_typeOf 7 = .ok (.irem, 1) := by decide +kernel
theorem dX10_typeOf_8 : decode cX10_typeOf 8 = .ok (.iaload, 1) := by decide +kernel
theorem dX10_typeOf_9 : decode cX10_typeOf 9 = .ok (.ireturn, 1) := by decide +kernel
set_option maxRecDepth 20000 in
set_option maxHeartbeats 4000000 in
theorem w_X10_typeOf {c : rX} {d : Nat} {S : rS} {K : Option Value → rS → Prop} (ho : rOK c) (p0 : Int32) (h : ∃ j1 : Nat, am_ix (p0 - p0 / 64 * 64) j1 64 ∧ (K (some (.int (S.1 29 j1))) S)) : rM c d eX10_typeOf [.ref c.2.2.1, .int p0] S K := by
  refine rM.of (by decide) (Nat.le_of_ble_eq_true rfl) ?_
  show rG c eX10_typeOf d (rQ c K) 0 [some (.ref c.2.2.1), some (.int p0)] [] S
  refine ag_aload_n dX10_typeOf_0 rfl (Or.inr ⟨_, rfl⟩) ?_
  refine rr_get (v := .ref (c.2.2.1 + (20 + 1))) ho dX10_typeOf_1 fw_10_76 rfl ?_
  refine ag_iload_n dX10_typeOf_4 rfl ?_
  refine ag_bipush (v := 64) dX10_typeOf_5 (by decide) ?_
  refine ag_irem dX10_typeOf_7 (by decide) rfl ?_
  obtain ⟨j1, hj2, h⟩ := h
  refine rr_il (v := S.1 29 j1) ho dX10_typeOf_8 (k := 20) (f := 29) rfl hj2 rfl ?_
  exact ag_ret (v := some (.int (S.1 29 j1))) dX10_typeOf_9 ⟨_, rfl, rfl⟩ ⟨_, rfl, _, rfl, h⟩ rfl
theorem dX10_placeOf_0 : decode cX10_placeOf 0 = .ok (.aload_n 0, 1) := by decide +kernel
theorem dX10_placeOf_1 : decode cX10_placeOf 1 = .ok (.getfield 79, 3) := by decide +kernel
theorem dX10_placeOf_4 : decode cX10_placeOf 4 = .ok (.iload_n 1, 1) := by decide +kernel
theorem dX10_placeOf_5 : decode cX10_placeOf 5 = .ok (.bipush 64, 2) := by decide +kernel
theorem dX10_placeOf_7 : decode cX10_placeOf 7 = .ok (.irem, 1) := by decide +kernel
theorem dX10_placeOf_8 : decode cX10_placeOf 8 = .ok (.iaload, 1) := by decide +kernel
theorem dX10_placeOf_9 : decode cX10_placeOf 9 = .ok (.ireturn, 1) := by decide +kernel
set_option maxRecDepth 20000 in
set_option maxHeartbeats 4000000 in
theorem w_X10_placeOf {c : rX} {d : Nat} {S : rS} {K : Option Value → rS → Prop} (ho : rOK c) (p0 : Int32) (h : ∃ j1 : Nat, am_ix (p0 - p0 / 64 * 64) j1 64 ∧ (K (some (.int (S.1 30 j1))) S)) : rM c d eX10_placeOf [.ref c.2.2.1, .int p0] S K := by
  refine rM.of (by decide) (Nat.le_of_ble_eq_true rfl) ?_
  show rG c eX10_placeOf d (rQ c K) 0 [some (.ref c.2.2.1), some (.int p0)] [] S
  refine ag_aload_n dX10_placeOf_0 rfl (Or.inr ⟨_, rfl⟩) ?_
  refine rr_get (v := .ref (c.2.2.1 + (21 + 1))) ho dX10_placeOf_1 fw_10_79 rfl ?_
  refine ag_iload_n dX10_placeOf_4 rfl ?_
  refine ag_bipush (v := 64) dX10_placeOf_5 (by decide) ?_
  refine ag_irem dX10_placeOf_7 (by decide) rfl ?_
  obtain ⟨j1, hj2, h⟩ := h
  refine rr_il (v := S.1 30 j1) ho dX10_placeOf_8 (k := 21) (f := 30) rfl hj2 rfl ?_
  exact ag_ret (v := some (.int (S.1 30 j1))) dX10_placeOf_9 ⟨_, rfl, rfl⟩ ⟨_, rfl, _, rfl, h⟩ rfl
theorem dX10_start_0 : decode cX10_start 0 = .ok (.aload_n 0, 1) := by decide +kernel
theorem dX10_start_1 : decode cX10_start 1 = .ok (.getfield 66, 3) := by decide +kernel
theorem dX10_start_4 : decode cX10_start 4 = .ok (.aload_n 0, 1) := by decide +kernel
theorem dX10_start_5 : decode cX10_start 5 = .ok (.iload_n 1, 1) := by decide +kernel
theorem dX10_start_6 : decode cX10_start 6 = .ok (.invokevirtual 219, 3) := by decide +kernel
theorem dX10_start_9 : decode cX10_start 9 = .ok (.aload_n 0, 1) := by decide +kernel
theorem dX10_start_10 : decode cX10_start 10 = .ok (.getfield 97, 3) := by decide +kernel
theorem dX10_start_13 : decode cX10_start 13 = .ok (.iconst 0, 1) := by decide +kernel
theorem dX10_start_14 : decode cX10_start 14 = .ok (.invokestatic 222, 3) := by decide +kernel
theorem dX10_start_17 : decode cX10_start 17 = .ok (.aload_n 0, 1) := by decide +kernel
theorem dX10_start_18 : decode cX10_start 18 = .ok (.getfield 66, 3) := by decide +kernel
theorem dX10_start_21 : decode cX10_start 21 = .ok (.aload_n 0, 1) := by decide +kernel
theorem dX10_start_22 : decode cX10_start 22 = .ok (.iload_n 1, 1) := by decide +kernel
theorem dX10_start_23 : decode cX10_start 23 = .ok (.invokevirtual 219, 3) := by decide +kernel
theorem dX10_start_26 : decode cX10_start 26 = .ok (.aload_n 0, 1) := by decide +kernel
theorem dX10_start_27 : decode cX10_start 27 = .ok (.getfield 100, 3) := by decide +kernel
theorem dX10_start_30 : decode cX10_start 30 = .ok (.iconst 0, 1) := by decide +kernel
theorem dX10_start_31 : decode cX10_start 31 = .ok (.invokestatic 222, 3) := by decide +kernel
theorem dX10_start_34 : decode cX10_start 34 = .ok (.return_, 1) := by decide +kernel
set_option maxRecDepth 20000 in
set_option maxHeartbeats 4000000 in
theorem w_X10_start {c : rX} {d : Nat} {S : rS} {K : Option Value → rS → Prop} (ho : rOK c) (p0 : Int32) (h : rM c d eX10_five (.ref c.2.2.1 :: [.int p0]) S (fun v S1 => ∃ z2 : Int32, v = some (.int z2) ∧ (rM c d eX10_copy [.ref (c.2.2.1 + (17 + 1)), .int z2, .ref (c.2.2.1 + (27 + 1)), .int 0] S1 (fun v S3 => v = none ∧ (rM c d eX10_five (.ref c.2.2.1 :: [.int p0]) S3 (fun v S5 => ∃ z6 : Int32, v = some (.int z6) ∧ (rM c d eX10_copy [.ref (c.2.2.1 + (17 + 1)), .int z6, .ref (c.2.2.1 + (28 + 1)), .int 0] S5 (fun v S7 => v = none ∧ (K none S7))))))))) : rM c (d + 1) eX10_start [.ref c.2.2.1, .int p0] S K := by
  refine rM.of (by decide) (Nat.le_of_ble_eq_true rfl) ?_
  show rG c eX10_start (d + 1) (rQ c K) 0 [some (.ref c.2.2.1), some (.int p0)] [] S
  refine ag_aload_n dX10_start_0 rfl (Or.inr ⟨_, rfl⟩) ?_
  refine rr_get (v := .ref (c.2.2.1 + (17 + 1))) ho dX10_start_1 fw_10_66 rfl ?_
  refine ag_aload_n dX10_start_4 rfl (Or.inr ⟨_, rfl⟩) ?_
  refine ag_iload_n dX10_start_5 rfl ?_
  refine rr_call (as := [.int p0]) (rest := [.ref (c.2.2.1 + (17 + 1))]) ho dX10_start_6 me_X10_five mi_X10_five lk_10_219 rfl rfl (Nat.le_of_ble_eq_true rfl) ?_
  refine rM.mono h ?_
  rintro v S1 ⟨z2, rfl, h⟩
  show rG _ _ _ _ _ _ [.int z2, .ref (c.2.2.1 + (17 + 1))] _
  refine ag_aload_n dX10_start_9 rfl (Or.inr ⟨_, rfl⟩) ?_
  refine rr_get (v := .ref (c.2.2.1 + (27 + 1))) ho dX10_start_10 fw_10_97 rfl ?_
  refine ag_iconst (v := 0) dX10_start_13 rfl ?_
  refine rr_calls (as := [.ref (c.2.2.1 + (17 + 1)), .int z2, .ref (c.2.2.1 + (27 + 1)), .int 0]) (rest := []) dX10_start_14 me_X10_copy ms_X10_copy lk_10_222 rfl rfl (Nat.le_of_ble_eq_true rfl) ?_
  refine rM.mono h ?_
  rintro v S3 ⟨rfl, h⟩
  show rG _ _ _ _ _ _ [] _
  refine ag_aload_n dX10_start_17 rfl (Or.inr ⟨_, rfl⟩) ?_
  refine rr_get (v := .ref (c.2.2.1 + (17 + 1))) ho dX10_start_18 fw_10_66 rfl ?_
  refine ag_aload_n dX10_start_21 rfl (Or.inr ⟨_, rfl⟩) ?_
  refine ag_iload_n dX10_start_22 rfl ?_
  refine rr_call (as := [.int p0]) (rest := [.ref (c.2.2.1 + (17 + 1))]) ho dX10_start_23 me_X10_five mi_X10_five lk_10_219 rfl rfl (Nat.le_of_ble_eq_true rfl) ?_
  refine rM.mono h ?_
  rintro v S5 ⟨z6, rfl, h⟩
  show rG _ _ _ _ _ _ [.int z6, .ref (c.2.2.1 + (17 + 1))] _
  refine ag_aload_n dX10_start_26 rfl (Or.inr ⟨_, rfl⟩) ?_
  refine rr_get (v := .ref (c.2.2.1 + (28 + 1))) ho dX10_start_27 fw_10_100 rfl ?_
  refine ag_iconst (v := 0) dX10_start_30 rfl ?_
  refine rr_calls (as := [.ref (c.2.2.1 + (17 + 1)), .int z6, .ref (c.2.2.1 + (28 + 1)), .int 0]) (rest := []) dX10_start_31 me_X10_copy ms_X10_copy lk_10_222 rfl rfl (Nat.le_of_ble_eq_true rfl) ?_
  refine rM.mono h ?_
  rintro v S7 ⟨rfl, h⟩
  show rG _ _ _ _ _ _ [] _
  exact ag_ret (v := none) dX10_start_34 rfl ⟨_, rfl, _, rfl, h⟩ rfl
theorem dX10_accepts_0 : decode cX10_accepts 0 = .ok (.iconst 1, 1) := by decide +kernel
theorem dX10_accepts_1 : decode cX10_accepts 1 = .ok (.istore_n 3, 1) := by decide +kernel
theorem dX10_accepts_2 : decode cX10_accepts 2 = .ok (.aload_n 0, 1) := by decide +kernel
theorem dX10_accepts_3 : decode cX10_accepts 3 = .ok (.getfield 82, 3) := by decide +kernel
theorem dX10_accepts_6 : decode cX10_accepts 6 = .ok (.iconst 0, 1) := by decide +kernel
theorem dX10_accepts_7 : decode cX10_accepts 7 = .ok (.iload_n 1, 1) := by decide +kernel
theorem dX10_accepts_8 : decode cX10_accepts 8 = .ok (.iastore, 1) := by decide +kernel
theorem dX10_accepts_9 : decode cX10_accepts 9 = .ok (.aload_n 0, 1) := by decide +kernel
theorem dX10_accepts_10 : decode cX10_accepts 10 = .ok (.getfield 63, 3) := by decide +kernel
theorem dX10_accepts_13 : decode cX10_accepts 13 = .ok (.iconst 0, 1) := by decide +kernel
theorem dX10_accepts_14 : decode cX10_accepts 14 = .ok (.iconst 0, 1) := by decide +kernel
theorem dX10_accepts_15 : decode cX10_accepts 15 = .ok (.iastore, 1) := by decide +kernel
theorem dX10_accepts_16 : decode cX10_accepts 16 = .ok (.aload_n 2, 1) := by decide +kernel
theorem dX10_accepts_17 : decode cX10_accepts 17 = .ok (.iconst 0, 1) := by decide +kernel
theorem dX10_accepts_18 : decode cX10_accepts 18 = .ok (.aload_n 0, 1) := by decide +kernel
theorem dX10_accepts_19 : decode cX10_accepts 19 = .ok (.getfield 66, 3) := by decide +kernel
theorem dX10_accepts_22 : decode cX10_accepts 22 = .ok (.aload_n 0, 1) := by decide +kernel
theorem dX10_accepts_23 : decode cX10_accepts 23 = .ok (.iload_n 1, 1) := by decide +kernel
theorem dX10_accepts_24 : decode cX10_accepts 24 = .ok (.invokevirtual 219, 3) := by decide +kernel
theorem dX10_accepts_27 : decode cX10_accepts 27 = .ok (.invokestatic 222, 3) := by decide +kernel
theorem dX10_accepts_30 : decode cX10_accepts 30 = .ok (.aload_n 0, 1) := by decide +kernel
theorem dX10_accepts_31 : decode cX10_accepts 31 = .ok (.iconst 0, 1) := by decide +kernel
theorem dX10_accepts_32 : decode cX10_accepts 32 = .ok (.putfield 229, 3) := by decide +kernel
theorem dX10_accepts_35 : decode cX10_accepts 35 = .ok (.iload_n 3, 1) := by decide +kernel
theorem dX10_accepts_36 : decode cX10_accepts 36 = .ok (.ifCond .le 85, 3) := by decide +kernel
theorem dX10_accepts_39 : decode cX10_accepts 39 = .ok (.aload_n 0, 1) := by decide +kernel
theorem dX10_accepts_40 : decode cX10_accepts 40 = .ok (.getfield 229, 3) := by decide +kernel
theorem dX10_accepts_43 : decode cX10_accepts 43 = .ok (.ifCond .ne 78, 3) := by decide +kernel
theorem dX10_accepts_46 : decode cX10_accepts 46 = .ok (.aload_n 0, 1) := by decide +kernel
theorem dX10_accepts_47 : decode cX10_accepts 47 = .ok (.getfield 82, 3) := by decide +kernel
theorem dX10_accepts_50 : decode cX10_accepts 50 = .ok (.iload_n 3, 1) := by decide +kernel
theorem dX10_accepts_51 : decode cX10_accepts 51 = .ok (.iconst 1, 1) := by decide +kernel
theorem dX10_accepts_52 : decode cX10_accepts 52 = .ok (.isub, 1) := by decide +kernel
theorem dX10_accepts_53 : decode cX10_accepts 53 = .ok (.iaload, 1) := by decide +kernel
theorem dX10_accepts_54 : decode cX10_accepts 54 = .ok (.istore 4, 2) := by decide +kernel
theorem dX10_accepts_56 : decode cX10_accepts 56 = .ok (.aload_n 0, 1) := by decide +kernel
theorem dX10_accepts_57 : decode cX10_accepts 57 = .ok (.getfield 63, 3) := by decide +kernel
theorem dX10_accepts_60 : decode cX10_accepts 60 = .ok (.iload_n 3, 1) := by decide +kernel
theorem dX10_accepts_61 : decode cX10_accepts 61 = .ok (.iconst 1, 1) := by decide +kernel
theorem dX10_accepts_62 : decode cX10_accepts 62 = .ok (.isub, 1) := by decide +kernel
theorem dX10_accepts_63 : decode cX10_accepts 63 = .ok (.iaload, 1) := by decide +kernel
theorem dX10_accepts_64 : decode cX10_accepts 64 = .ok (.istore 5, 2) := by decide +kernel
theorem dX10_accepts_66 : decode cX10_accepts 66 = .ok (.aload_n 0, 1) := by decide +kernel
theorem dX10_accepts_67 : decode cX10_accepts 67 = .ok (.getfield 63, 3) := by decide +kernel
theorem dX10_accepts_70 : decode cX10_accepts 70 = .ok (.iload_n 3, 1) := by decide +kernel
theorem dX10_accepts_71 : decode cX10_accepts 71 = .ok (.iconst 1, 1) := by decide +kernel
theorem dX10_accepts_72 : decode cX10_accepts 72 = .ok (.isub, 1) := by decide +kernel
theorem dX10_accepts_73 : decode cX10_accepts 73 = .ok (.dup2, 1) := by decide +kernel
theorem dX10_accepts_74 : decode cX10_accepts 74 = .ok (.iaload, 1) := by decide +kernel
theorem dX10_accepts_75 : decode cX10_accepts 75 = .ok (.iconst 1, 1) := by decide +kernel
theorem dX10_accepts_76 : decode cX10_accepts 76 = .ok (.iadd, 1) := by decide +kernel
theorem dX10_accepts_77 : decode cX10_accepts 77 = .ok (.iastore, 1) := by decide +kernel
theorem dX10_accepts_78 : decode cX10_accepts 78 = .ok (.aload_n 0, 1) := by decide +kernel
theorem dX10_accepts_79 : decode cX10_accepts 79 = .ok (.iload 4, 2) := by decide +kernel
theorem dX10_accepts_81 : decode cX10_accepts 81 = .ok (.iload 5, 2) := by decide +kernel
theorem dX10_accepts_83 : decode cX10_accepts 83 = .ok (.invokevirtual 232, 3) := by decide +kernel
theorem dX10_accepts_86 : decode cX10_accepts 86 = .ok (.istore 6, 2) := by decide +kernel
theorem dX10_accepts_88 : decode cX10_accepts 88 = .ok (.iload 6, 2) := by decide +kernel
theorem dX10_accepts_90 : decode cX10_accepts 90 = .ok (.iconst (-1), 1) := by decide +kernel
theorem dX10_accepts_91 : decode cX10_accepts 91 = .ok (.if_icmp .ne 9, 3) := by decide +kernel
theorem dX10_accepts_94 : decode cX10_accepts 94 = .ok (.iinc 3 (-1), 3) := by decide +kernel
theorem dX10_accepts_97 : decode cX10_accepts 97 = .ok (.goto (-62), 3) := by decide +kernel
theorem dX10_accepts_100 : decode cX10_accepts 100 = .ok (.aload_n 0, 1) := by decide +kernel
theorem dX10_accepts_101 : decode cX10_accepts 101 = .ok (.getfield 82, 3) := by decide +kernel
theorem dX10_accepts_104 : decode cX10_accepts 104 = .ok (.iload_n 3, 1) := by decide +kernel
theorem dX10_accepts_105 : decode cX10_accepts 105 = .ok (.iload 6, 2) := by decide +kernel
theorem dX10_accepts_107 : decode cX10_accepts 107 = .ok (.iastore, 1) := by decide +kernel
theorem dX10_accepts_108 : decode cX10_accepts 108 = .ok (.aload_n 0, 1) := by decide +kernel
theorem dX10_accepts_109 : decode cX10_accepts 109 = .ok (.getfield 63, 3) := by decide +kernel
theorem dX10_accepts_112 : decode cX10_accepts 112 = .ok (.iload_n 3, 1) := by decide +kernel
theorem dX10_accepts_113 : decode cX10_accepts 113 = .ok (.iconst 0, 1) := by decide +kernel
theorem dX10_accepts_114 : decode cX10_accepts 114 = .ok (.iastore, 1) := by decide +kernel
theorem dX10_accepts_115 : decode cX10_accepts 115 = .ok (.iinc 3 1, 3) := by decide +kernel
theorem dX10_accepts_118 : decode cX10_accepts 118 = .ok (.goto (-83), 3) := by decide +kernel
theorem dX10_accepts_121 : decode cX10_accepts 121 = .ok (.aload_n 0, 1) := by decide +kernel
theorem dX10_accepts_122 : decode cX10_accepts 122 = .ok (.getfield 229, 3) := by decide +kernel
theorem dX10_accepts_125 : decode cX10_accepts 125 = .ok (.ifCond .ne 7, 3) := by decide +kernel
theorem dX10_accepts_128 : decode cX10_accepts 128 = .ok (.iconst 1, 1) := by decide +kernel
theorem dX10_accepts_129 : decode cX10_accepts 129 = .ok (.goto 4, 3) := by decide +kernel
theorem dX10_accepts_132 : decode cX10_accepts 132 = .ok (.iconst 0, 1) := by decide +kernel
theorem dX10_accepts_133 : decode cX10_accepts 133 = .ok (.ireturn, 1) := by decide +kernel
set_option maxRecDepth 20000 in
set_option maxHeartbeats 4000000 in
theorem w_X10_accepts {c : rX} {d : Nat} {S : rS} {K : Option Value → rS → Prop} (ho : rOK c) (p0 : Int32) {kp1 fp1 np1 : Nat} (hp1 : rT[kp1]? = some (fp1, 21, np1)) (h : rM c d eX10_five (.ref c.2.2.1 :: [.int p0]) (rsi (rsi S 31 0 p0) 25 0 0) (fun v S1 => ∃ z2 : Int32, v = some (.int z2) ∧ (rM c d eX10_copy [.ref (c.2.2.1 + (kp1 + 1)), .int 0, .ref (c.2.2.1 + (17 + 1)), .int z2] S1 (fun v S3 => v = none ∧ (rG c eX10_accepts (d + 1) (rQ c K) 35 [some (.ref c.2.2.1), none, none, some (.int 1), none, none, none] [] (rsi S3 38 0 0)))))) : rM c (d + 1) eX10_accepts [.ref c.2.2.1, .int p0, .ref (c.2.2.1 + (kp1 + 1))] S K := by
  refine rM.of (by decide) (Nat.le_of_ble_eq_true rfl) ?_
  show rG c eX10_accepts (d + 1) (rQ c K) 0 [some (.ref c.2.2.1), some (.int p0), some (.ref (c.2.2.1 + (kp1 + 1))), none, none, none, none] [] S
  refine ag_iconst (v := 1) dX10_accepts_0 rfl ?_
  refine ag_istore_n (lv2 := [some (.ref c.2.2.1), some (.int p0), some (.ref (c.2.2.1 + (kp1 + 1))), some (.int 1), none, none, none]) dX10_accepts_1 (Nat.le_of_ble_eq_true rfl) rfl ?_
  refine ag_aload_n dX10_accepts_2 rfl (Or.inr ⟨_, rfl⟩) ?_
  refine rr_get (v := .ref (c.2.2.1 + (22 + 1))) ho dX10_accepts_3 fw_10_82 rfl ?_
  refine ag_iconst (v := 0) dX10_accepts_6 rfl ?_
  refine ag_iload_n dX10_accepts_7 rfl ?_
  refine rr_is (S2 := (rsi S 31 0 p0)) ho dX10_accepts_8 (k := 22) (f := 31) rfl ⟨by decide, by decide, by decide⟩ rfl ?_
  refine ag_aload_n dX10_accepts_9 rfl (Or.inr ⟨_, rfl⟩) ?_
  refine rr_get (v := .ref (c.2.2.1 + (16 + 1))) ho dX10_accepts_10 fw_10_63 rfl ?_
  refine ag_iconst (v := 0) dX10_accepts_13 rfl ?_
  refine ag_iconst (v := 0) dX10_accepts_14 rfl ?_
  refine rr_is (S2 := (rsi (rsi S 31 0 p0) 25 0 0)) ho dX10_accepts_15 (k := 16) (f := 25) rfl ⟨by decide, by decide, by decide⟩ rfl ?_
  refine ag_aload_n dX10_accepts_16 rfl (Or.inr ⟨_, rfl⟩) ?_
  refine ag_iconst (v := 0) dX10_accepts_17 rfl ?_
  refine ag_aload_n dX10_accepts_18 rfl (Or.inr ⟨_, rfl⟩) ?_
  refine rr_get (v := .ref (c.2.2.1 + (17 + 1))) ho dX10_accepts_19 fw_10_66 rfl ?_
  refine ag_aload_n dX10_accepts_22 rfl (Or.inr ⟨_, rfl⟩) ?_
  refine ag_iload_n dX10_accepts_23 rfl ?_
  refine rr_call (as := [.int p0]) (rest := [.ref (c.2.2.1 + (17 + 1)), .int 0, .ref (c.2.2.1 + (kp1 + 1))]) ho dX10_accepts_24 me_X10_five mi_X10_five lk_10_219 rfl rfl (Nat.le_of_ble_eq_true rfl) ?_
  refine rM.mono h ?_
  rintro v S1 ⟨z2, rfl, h⟩
  show rG _ _ _ _ _ _ [.int z2, .ref (c.2.2.1 + (17 + 1)), .int 0, .ref (c.2.2.1 + (kp1 + 1))] _
  refine rr_calls (as := [.ref (c.2.2.1 + (kp1 + 1)), .int 0, .ref (c.2.2.1 + (17 + 1)), .int z2]) (rest := []) dX10_accepts_27 me_X10_copy ms_X10_copy lk_10_222 rfl rfl (Nat.le_of_ble_eq_true rfl) ?_
  refine rM.mono h ?_
  rintro v S3 ⟨rfl, h⟩
  show rG _ _ _ _ _ _ [] _
  refine ag_aload_n dX10_accepts_30 rfl (Or.inr ⟨_, rfl⟩) ?_
  refine ag_iconst (v := 0) dX10_accepts_31 rfl ?_
  refine rr_put (S2 := (rsi S3 38 0 0)) ho dX10_accepts_32 pw_10_229 rfl (rB_ok (Or.inl rfl)) rfl ?_
  refine ag_drop 1 ?_
  refine ag_drop 2 ?_
  exact h
set_option maxRecDepth 20000 in
set_option maxHeartbeats 4000000 in
theorem w_X10_accepts_35 {c : rX} {d : Nat} {S : rS} {K : Option Value → rS → Prop} (ho : rOK c) (v3 : Int32) (h : (v3 ≤ 0 → ((¬ (S.1 38 0) = 0 → (K (some (.int 0)) S)) ∧ ((S.1 38 0) = 0 → (K (some (.int 1)) S)))) ∧ (¬ v3 ≤ 0 → ((¬ (S.1 38 0) = 0 → ((¬ (S.1 38 0) = 0 → (K (some (.int 0)) S)) ∧ ((S.1 38 0) = 0 → (K (some (.int 1)) S)))) ∧ ((S.1 38 0) = 0 → (∃ j5 : Nat, am_ix (v3 - 1) j5 80 ∧ (∃ j7 : Nat, am_ix (v3 - 1) j7 80 ∧ (∃ j9 : Nat, am_ix (v3 - 1) j9 80 ∧ (∃ j11 : Nat, am_ix (v3 - 1) j11 80 ∧ (rM c d eX10_nextPart (.ref c.2.2.1 :: [.int (S.1 31 j5), .int (S.1 25 j7)]) (rsi S 25 j11 ((S.1 25 j9) + 1)) (fun v S13 => ∃ z14 : Int32, v = some (.int z14) ∧ ((¬ z14 = (-1) → (∃ j16 : Nat, am_ix v3 j16 80 ∧ (∃ j18 : Nat, am_ix v3 j18 80 ∧ (rG c eX10_accepts (d + 1) (rQ c K) 35 [some (.ref c.2.2.1), none, none, some (.int (v3 + 1)), none, none, none] [] (rsi (rsi S13 31 j16 z14) 25 j18 0))))) ∧ (z14 = (-1) → (rG c eX10_accepts (d + 1) (rQ c K) 35 [some (.ref c.2.2.1), none, none, some (.int (v3 + (-1))), none, none, none] [] S13))))))))))))) : rG c eX10_accepts (d + 1) (rQ c K) 35 [some (.ref c.2.2.1), none, none, some (.int v3), none, none, none] [] S := by
  refine ag_iload_n dX10_accepts_35 rfl ?_
  refine ag_if_le (tgt := 121) dX10_accepts_36 rfl (fun hc1 => ?_) (fun hc1 => ?_)
  · have h := h.1 hc1
    refine ag_aload_n dX10_accepts_121 rfl (Or.inr ⟨_, rfl⟩) ?_
    refine rr_get (v := .int (S.1 38 0)) ho dX10_accepts_122 fw_10_229 rfl ?_
    refine ag_if_ne (tgt := 132) dX10_accepts_125 rfl (fun hc2 => ?_) (fun hc2 => ?_)
    · have h := h.1 hc2
      refine ag_iconst (v := 0) dX10_accepts_132 rfl ?_
      exact ag_ret (v := some (.int 0)) dX10_accepts_133 ⟨_, rfl, rB_n (Or.inl rfl)⟩ ⟨_, rfl, _, rfl, h⟩ rfl
    · have h := h.2 hc2
      refine ag_iconst (v := 1) dX10_accepts_128 rfl ?_
      refine ag_goto (tgt := 133) dX10_accepts_129 rfl ?_
      exact ag_ret (v := some (.int 1)) dX10_accepts_133 ⟨_, rfl, rB_n (Or.inr rfl)⟩ ⟨_, rfl, _, rfl, h⟩ rfl
  · have h := h.2 hc1
    refine ag_aload_n dX10_accepts_39 rfl (Or.inr ⟨_, rfl⟩) ?_
    refine rr_get (v := .int (S.1 38 0)) ho dX10_accepts_40 fw_10_229 rfl ?_
    refine ag_if_ne (tgt := 121) dX10_accepts_43 rfl (fun hc3 => ?_) (fun hc3 => ?_)
    · have h := h.1 hc3
      refine ag_aload_n dX10_accepts_121 rfl (Or.inr ⟨_, rfl⟩) ?_
      refine rr_get (v := .int (S.1 38 0)) ho dX10_accepts_122 fw_10_229 rfl ?_
      refine ag_if_ne (tgt := 132) dX10_accepts_125 rfl (fun hc4 => ?_) (fun hc4 => ?_)
      · have h := h.1 hc4
        refine ag_iconst (v := 0) dX10_accepts_132 rfl ?_
        exact ag_ret (v := some (.int 0)) dX10_accepts_133 ⟨_, rfl, rB_n (Or.inl rfl)⟩ ⟨_, rfl, _, rfl, h⟩ rfl
      · have h := h.2 hc4
        refine ag_iconst (v := 1) dX10_accepts_128 rfl ?_
        refine ag_goto (tgt := 133) dX10_accepts_129 rfl ?_
        exact ag_ret (v := some (.int 1)) dX10_accepts_133 ⟨_, rfl, rB_n (Or.inr rfl)⟩ ⟨_, rfl, _, rfl, h⟩ rfl
    · have h := h.2 hc3
      refine ag_aload_n dX10_accepts_46 rfl (Or.inr ⟨_, rfl⟩) ?_
      refine rr_get (v := .ref (c.2.2.1 + (22 + 1))) ho dX10_accepts_47 fw_10_82 rfl ?_
      refine ag_iload_n dX10_accepts_50 rfl ?_
      refine ag_iconst (v := 1) dX10_accepts_51 rfl ?_
      refine ag_isub dX10_accepts_52 rfl ?_
      obtain ⟨j5, hj6, h⟩ := h
      refine rr_il (v := S.1 31 j5) ho dX10_accepts_53 (k := 22) (f := 31) rfl hj6 rfl ?_
      refine ag_istore (lv2 := [some (.ref c.2.2.1), none, none, some (.int v3), some (.int (S.1 31 j5)), none, none]) dX10_accepts_54 (Nat.le_of_ble_eq_true rfl) rfl ?_
      refine ag_aload_n dX10_accepts_56 rfl (Or.inr ⟨_, rfl⟩) ?_
      refine rr_get (v := .ref (c.2.2.1 + (16 + 1))) ho dX10_accepts_57 fw_10_63 rfl ?_
      refine ag_iload_n dX10_accepts_60 rfl ?_
      refine ag_iconst (v := 1) dX10_accepts_61 rfl ?_
      refine ag_isub dX10_accepts_62 rfl ?_
      obtain ⟨j7, hj8, h⟩ := h
      refine rr_il (v := S.1 25 j7) ho dX10_accepts_63 (k := 16) (f := 25) rfl hj8 rfl ?_
      refine ag_istore (lv2 := [some (.ref c.2.2.1), none, none, some (.int v3), some (.int (S.1 31 j5)), some (.int (S.1 25 j7)), none]) dX10_accepts_64 (Nat.le_of_ble_eq_true rfl) rfl ?_
      refine ag_aload_n dX10_accepts_66 rfl (Or.inr ⟨_, rfl⟩) ?_
      refine rr_get (v := .ref (c.2.2.1 + (16 + 1))) ho dX10_accepts_67 fw_10_63 rfl ?_
      refine ag_iload_n dX10_accepts_70 rfl ?_
      refine ag_iconst (v := 1) dX10_accepts_71 rfl ?_
      refine ag_isub dX10_accepts_72 rfl ?_
      refine ag_dup2 dX10_accepts_73 rfl rfl ?_
      obtain ⟨j9, hj10, h⟩ := h
      refine rr_il (v := S.1 25 j9) ho dX10_accepts_74 (k := 16) (f := 25) rfl hj10 rfl ?_
      refine ag_iconst (v := 1) dX10_accepts_75 rfl ?_
      refine ag_iadd dX10_accepts_76 rfl ?_
      obtain ⟨j11, hj12, h⟩ := h
      refine rr_is (S2 := (rsi S 25 j11 ((S.1 25 j9) + 1))) ho dX10_accepts_77 (k := 16) (f := 25) rfl hj12 rfl ?_
      refine ag_aload_n dX10_accepts_78 rfl (Or.inr ⟨_, rfl⟩) ?_
      refine ag_iload dX10_accepts_79 rfl ?_
      refine ag_iload dX10_accepts_81 rfl ?_
      refine rr_call (as := [.int (S.1 31 j5), .int (S.1 25 j7)]) (rest := []) ho dX10_accepts_83 me_X10_nextPart mi_X10_nextPart lk_10_232 rfl rfl (Nat.le_of_ble_eq_true rfl) ?_
      refine rM.mono h ?_
      rintro v S13 ⟨z14, rfl, h⟩
      show rG _ _ _ _ _ _ [.int z14] _
      refine ag_istore (lv2 := [some (.ref c.2.2.1), none, none, some (.int v3), some (.int (S.1 31 j5)), some (.int (S.1 25 j7)), some (.int z14)]) dX10_accepts_86 (Nat.le_of_ble_eq_true rfl) rfl ?_
      refine ag_iload dX10_accepts_88 rfl ?_
      refine ag_iconst (v := (-1)) dX10_accepts_90 rfl ?_
      refine ag_icmp_ne (tgt := 100) dX10_accepts_91 rfl (fun hc15 => ?_) (fun hc15 => ?_)
      · have h := h.1 hc15
        refine ag_aload_n dX10_accepts_100 rfl (Or.inr ⟨_, rfl⟩) ?_
        refine rr_get (v := .ref (c.2.2.1 + (22 + 1))) ho dX10_accepts_101 fw_10_82 rfl ?_
        refine ag_iload_n dX10_accepts_104 rfl ?_
        refine ag_iload dX10_accepts_105 rfl ?_
        obtain ⟨j16, hj17, h⟩ := h
        refine rr_is (S2 := (rsi S13 31 j16 z14)) ho dX10_accepts_107 (k := 22) (f := 31) rfl hj17 rfl ?_
        refine ag_aload_n dX10_accepts_108 rfl (Or.inr ⟨_, rfl⟩) ?_
        refine rr_get (v := .ref (c.2.2.1 + (16 + 1))) ho dX10_accepts_109 fw_10_63 rfl ?_
        refine ag_iload_n dX10_accepts_112 rfl ?_
        refine ag_iconst (v := 0) dX10_accepts_113 rfl ?_
        obtain ⟨j18, hj19, h⟩ := h
        refine rr_is (S2 := (rsi (rsi S13 31 j16 z14) 25 j18 0)) ho dX10_accepts_114 (k := 16) (f := 25) rfl hj19 rfl ?_
        refine ag_iinc (v2 := (v3 + 1)) (lv2 := [some (.ref c.2.2.1), none, none, some (.int (v3 + 1)), some (.int (S.1 31 j5)), some (.int (S.1 25 j7)), some (.int z14)]) dX10_accepts_115 rfl rfl rfl ?_
        refine ag_goto (tgt := 35) dX10_accepts_118 rfl ?_
        refine ag_drop 4 ?_
        refine ag_drop 5 ?_
        refine ag_drop 6 ?_
        exact h
      · have h := h.2 hc15
        refine ag_iinc (v2 := (v3 + (-1))) (lv2 := [some (.ref c.2.2.1), none, none, some (.int (v3 + (-1))), some (.int (S.1 31 j5)), some (.int (S.1 25 j7)), some (.int z14)]) dX10_accepts_94 rfl rfl rfl ?_
        refine ag_goto (tgt := 35) dX10_accepts_97 rfl ?_
        refine ag_drop 4 ?_
        refine ag_drop 5 ?_
        refine ag_drop 6 ?_
        exact h
theorem dX10_nextPart_0 : decode cX10_nextPart 0 = .ok (.iload_n 2, 1) := by decide +kernel
theorem dX10_nextPart_1 : decode cX10_nextPart 1 = .ok (.ifCond .ne 43, 3) := by decide +kernel
theorem dX10_nextPart_4 : decode cX10_nextPart 4 = .ok (.aload_n 0, 1) := by decide +kernel
theorem dX10_nextPart_5 : decode cX10_nextPart 5 = .ok (.getfield 66, 3) := by decide +kernel
theorem dX10_nextPart_8 : decode cX10_nextPart 8 = .ok (.aload_n 0, 1) := by decide +kernel
theorem dX10_nextPart_9 : decode cX10_nextPart 9 = .ok (.iload_n 1, 1) := by decide +kernel
theorem dX10_nextPart_10 : decode cX10_nextPart 10 = .ok (.invokevirtual 219, 3) := by decide +kernel
theorem dX10_nextPart_13 : decode cX10_nextPart 13 = .ok (.invokestatic 211, 3) := by decide +kernel
theorem dX10_nextPart_16 : decode cX10_nextPart 16 = .ok (.ifCond .eq 28, 3) := by decide +kernel
theorem dX10_nextPart_19 : decode cX10_nextPart 19 = .ok (.aload_n 0, 1) := by decide +kernel
theorem dX10_nextPart_20 : decode cX10_nextPart 20 = .ok (.getfield 97, 3) := by decide +kernel
theorem dX10_nextPart_23 : decode cX10_nextPart 23 = .ok (.iconst 0, 1) := by decide +kernel
theorem dX10_nextPart_24 : decode cX10_nextPart 24 = .ok (.invokestatic 215, 3) := by decide +kernel
theorem dX10_nextPart_27 : decode cX10_nextPart 27 = .ok (.aload_n 0, 1) := by decide +kernel
theorem dX10_nextPart_28 : decode cX10_nextPart 28 = .ok (.getfield 100, 3) := by decide +kernel
theorem dX10_nextPart_31 : decode cX10_nextPart 31 = .ok (.iconst 0, 1) := by decide +kernel
theorem dX10_nextPart_32 : decode cX10_nextPart 32 = .ok (.invokestatic 215, 3) := by decide +kernel
theorem dX10_nextPart_35 : decode cX10_nextPart 35 = .ok (.aload_n 0, 1) := by decide +kernel
theorem dX10_nextPart_36 : decode cX10_nextPart 36 = .ok (.iload_n 1, 1) := by decide +kernel
theorem dX10_nextPart_37 : decode cX10_nextPart 37 = .ok (.iconst 0, 1) := by decide +kernel
theorem dX10_nextPart_38 : decode cX10_nextPart 38 = .ok (.iconst (-1), 1) := by decide +kernel
theorem dX10_nextPart_39 : decode cX10_nextPart 39 = .ok (.invokevirtual 235, 3) := by decide +kernel
theorem dX10_nextPart_42 : decode cX10_nextPart 42 = .ok (.iconst (-1), 1) := by decide +kernel
theorem dX10_nextPart_43 : decode cX10_nextPart 43 = .ok (.ireturn, 1) := by decide +kernel
theorem dX10_nextPart_44 : decode cX10_nextPart 44 = .ok (.iload_n 2, 1) := by decide +kernel
theorem dX10_nextPart_45 : decode cX10_nextPart 45 = .ok (.ifCond .ne 12, 3) := by decide +kernel
theorem dX10_nextPart_48 : decode cX10_nextPart 48 = .ok (.aload_n 0, 1) := by decide +kernel
theorem dX10_nextPart_49 : decode cX10_nextPart 49 = .ok (.getfield 20, 3) := by decide +kernel
theorem dX10_nextPart_52 : decode cX10_nextPart 52 = .ok (.iload_n 1, 1) := by decide +kernel
theorem dX10_nextPart_53 : decode cX10_nextPart 53 = .ok (.iaload, 1) := by decide +kernel
theorem dX10_nextPart_54 : decode cX10_nextPart 54 = .ok (.goto 32, 3) := by decide +kernel
theorem dX10_nextPart_57 : decode cX10_nextPart 57 = .ok (.iload_n 2, 1) := by decide +kernel
theorem dX10_nextPart_58 : decode cX10_nextPart 58 = .ok (.iconst 1, 1) := by decide +kernel
theorem dX10_nextPart_59 : decode cX10_nextPart 59 = .ok (.if_icmp .ne 12, 3) := by decide +kernel
theorem dX10_nextPart_62 : decode cX10_nextPart 62 = .ok (.aload_n 0, 1) := by decide +kernel
theorem dX10_nextPart_63 : decode cX10_nextPart 63 = .ok (.getfield 23, 3) := by decide +kernel
theorem dX10_nextPart_66 : decode cX10_nextPart 66 = .ok (.iload_n 1, 1) := by decide +kernel
theorem dX10_nextPart_67 : decode cX10_nextPart 67 = .ok (.iaload, 1) := by decide +kernel
theorem dX10_nextPart_68 : decode cX10_nextPart 68 = .ok (.goto 18, 3) := by decide +kernel
theorem dX10_nextPart_71 : decode cX10_nextPart 71 = .ok (.iload_n 2, 1) := by decide +kernel
theorem dX10_nextPart_72 : decode cX10_nextPart 72 = .ok (.iconst 2, 1) := by decide +kernel
theorem dX10_nextPart_73 : decode cX10_nextPart 73 = .ok (.if_icmp .ne 12, 3) := by decide +kernel
theorem dX10_nextPart_76 : decode cX10_nextPart 76 = .ok (.aload_n 0, 1) := by decide +kernel
theorem dX10_nextPart_77 : decode cX10_nextPart 77 = .ok (.getfield 26, 3) := by decide +kernel
theorem dX10_nextPart_80 : decode cX10_nextPart 80 = .ok (.iload_n 1, 1) := by decide +kernel
theorem dX10_nextPart_81 : decode cX10_nextPart 81 = .ok (.iaload, 1) := by decide +kernel
theorem dX10_nextPart_82 : decode cX10_nextPart 82 = .ok (.goto 4, 3) := by decide +kernel
theorem dX10_nextPart_85 : decode cX10_nextPart 85 = .ok (.iconst (-1), 1) := by decide +kernel
theorem dX10_nextPart_86 : decode cX10_nextPart 86 = .ok (.istore_n 3, 1) := by decide +kernel
theorem dX10_nextPart_87 : decode cX10_nextPart 87 = .ok (.iload_n 3, 1) := by decide +kernel
theorem dX10_nextPart_88 : decode cX10_nextPart 88 = .ok (.iconst (-1), 1) := by decide +kernel
theorem dX10_nextPart_89 : decode cX10_nextPart 89 = .ok (.if_icmp .ne 10, 3) := by decide +kernel
theorem dX10_nextPart_92 : decode cX10_nextPart 92 = .ok (.aload_n 0, 1) := by decide +kernel
theorem dX10_nextPart_93 : decode cX10_nextPart 93 = .ok (.iload_n 1, 1) := by decide +kernel
theorem dX10_nextPart_94 : decode cX10_nextPart 94 = .ok (.invokevirtual 239, 3) := by decide +kernel
theorem dX10_nextPart_97 : decode cX10_nextPart 97 = .ok (.iconst (-1), 1) := by decide +kernel
theorem dX10_nextPart_98 : decode cX10_nextPart 98 = .ok (.ireturn, 1) := by decide +kernel
theorem dX10_nextPart_99 : decode cX10_nextPart 99 = .ok (.aload_n 0, 1) := by decide +kernel
theorem dX10_nextPart_100 : decode cX10_nextPart 100 = .ok (.getfield 20, 3) := by decide +kernel
theorem dX10_nextPart_103 : decode cX10_nextPart 103 = .ok (.iload_n 1, 1) := by decide +kernel
theorem dX10_nextPart_104 : decode cX10_nextPart 104 = .ok (.iaload, 1) := by decide +kernel
theorem dX10_nextPart_105 : decode cX10_nextPart 105 = .ok (.istore 4, 2) := by decide +kernel
theorem dX10_nextPart_107 : decode cX10_nextPart 107 = .ok (.iload_n 2, 1) := by decide +kernel
theorem dX10_nextPart_108 : decode cX10_nextPart 108 = .ok (.ifCond .le 51, 3) := by decide +kernel
theorem dX10_nextPart_111 : decode cX10_nextPart 111 = .ok (.aload_n 0, 1) := by decide +kernel
theorem dX10_nextPart_112 : decode cX10_nextPart 112 = .ok (.getfield 17, 3) := by decide +kernel
theorem dX10_nextPart_115 : decode cX10_nextPart 115 = .ok (.iload_n 1, 1) := by decide +kernel
theorem dX10_nextPart_116 : decode cX10_nextPart 116 = .ok (.iaload, 1) := by decide +kernel
theorem dX10_nextPart_117 : decode cX10_nextPart 117 = .ok (.bipush 63, 2) := by decide +kernel
theorem dX10_nextPart_119 : decode cX10_nextPart 119 = .ok (.if_icmp .ne 40, 3) := by decide +kernel
theorem dX10_nextPart_122 : decode cX10_nextPart 122 = .ok (.iload_n 2, 1) := by decide +kernel
theorem dX10_nextPart_123 : decode cX10_nextPart 123 = .ok (.iconst 1, 1) := by decide +kernel
theorem dX10_nextPart_124 : decode cX10_nextPart 124 = .ok (.if_icmp .ne 10, 3) := by decide +kernel
theorem dX10_nextPart_127 : decode cX10_nextPart 127 = .ok (.aload_n 0, 1) := by decide +kernel
theorem dX10_nextPart_128 : decode cX10_nextPart 128 = .ok (.getfield 70, 3) := by decide +kernel
theorem dX10_nextPart_131 : decode cX10_nextPart 131 = .ok (.goto 7, 3) := by decide +kernel
theorem dX10_nextPart_134 : decode cX10_nextPart 134 = .ok (.aload_n 0, 1) := by decide +kernel
theorem dX10_nextPart_135 : decode cX10_nextPart 135 = .ok (.getfield 73, 3) := by decide +kernel
theorem dX10_nextPart_138 : decode cX10_nextPart 138 = .ok (.aload_n 0, 1) := by decide +kernel
theorem dX10_nextPart_139 : decode cX10_nextPart 139 = .ok (.iload 4, 2) := by decide +kernel
theorem dX10_nextPart_141 : decode cX10_nextPart 141 = .ok (.invokevirtual 219, 3) := by decide +kernel
theorem dX10_nextPart_144 : decode cX10_nextPart 144 = .ok (.aload_n 0, 1) := by decide +kernel
theorem dX10_nextPart_145 : decode cX10_nextPart 145 = .ok (.getfield 66, 3) := by decide +kernel
theorem dX10_nextPart_148 : decode cX10_nextPart 148 = .ok (.aload_n 0, 1) := by decide +kernel
theorem dX10_nextPart_149 : decode cX10_nextPart 149 = .ok (.iload_n 3, 1) := by decide +kernel
theorem dX10_nextPart_150 : decode cX10_nextPart 150 = .ok (.invokevirtual 219, 3) := by decide +kernel
theorem dX10_nextPart_153 : decode cX10_nextPart 153 = .ok (.invokestatic 222, 3) := by decide +kernel
theorem dX10_nextPart_156 : decode cX10_nextPart 156 = .ok (.goto 106, 3) := by decide +kernel
theorem dX10_nextPart_159 : decode cX10_nextPart 159 = .ok (.iload_n 2, 1) := by decide +kernel
theorem dX10_nextPart_160 : decode cX10_nextPart 160 = .ok (.iconst 1, 1) := by decide +kernel
theorem dX10_nextPart_161 : decode cX10_nextPart 161 = .ok (.if_icmp .ne 39, 3) := by decide +kernel
theorem dX10_nextPart_164 : decode cX10_nextPart 164 = .ok (.aload_n 0, 1) := by decide +kernel
theorem dX10_nextPart_165 : decode cX10_nextPart 165 = .ok (.getfield 17, 3) := by decide +kernel
theorem dX10_nextPart_168 : decode cX10_nextPart 168 = .ok (.iload_n 1, 1) := by decide +kernel
theorem dX10_nextPart_169 : decode cX10_nextPart 169 = .ok (.iaload, 1) := by decide +kernel
theorem dX10_nextPart_170 : decode cX10_nextPart 170 = .ok (.bipush 38, 2) := by decide +kernel
theorem dX10_nextPart_172 : decode cX10_nextPart 172 = .ok (.if_icmp .ne 28, 3) := by decide +kernel
theorem dX10_nextPart_175 : decode cX10_nextPart 175 = .ok (.aload_n 0, 1) := by decide +kernel
theorem dX10_nextPart_176 : decode cX10_nextPart 176 = .ok (.getfield 70, 3) := by decide +kernel
theorem dX10_nextPart_179 : decode cX10_nextPart 179 = .ok (.aload_n 0, 1) := by decide +kernel
theorem dX10_nextPart_180 : decode cX10_nextPart 180 = .ok (.iload 4, 2) := by decide +kernel
theorem dX10_nextPart_182 : decode cX10_nextPart 182 = .ok (.invokevirtual 219, 3) := by decide +kernel
theorem dX10_nextPart_185 : decode cX10_nextPart 185 = .ok (.aload_n 0, 1) := by decide +kernel
theorem dX10_nextPart_186 : decode cX10_nextPart 186 = .ok (.getfield 66, 3) := by decide +kernel
theorem dX10_nextPart_189 : decode cX10_nextPart 189 = .ok (.aload_n 0, 1) := by decide +kernel
theorem dX10_nextPart_190 : decode cX10_nextPart 190 = .ok (.iload_n 3, 1) := by decide +kernel
theorem dX10_nextPart_191 : decode cX10_nextPart 191 = .ok (.invokevirtual 219, 3) := by decide +kernel
theorem dX10_nextPart_194 : decode cX10_nextPart 194 = .ok (.invokestatic 222, 3) := by decide +kernel
theorem dX10_nextPart_197 : decode cX10_nextPart 197 = .ok (.goto 65, 3) := by decide +kernel
theorem dX10_nextPart_200 : decode cX10_nextPart 200 = .ok (.iload_n 2, 1) := by decide +kernel
theorem dX10_nextPart_201 : decode cX10_nextPart 201 = .ok (.iconst 1, 1) := by decide +kernel
theorem dX10_nextPart_202 : decode cX10_nextPart 202 = .ok (.if_icmp .ne 39, 3) := by decide +kernel
theorem dX10_nextPart_205 : decode cX10_nextPart 205 = .ok (.aload_n 0, 1) := by decide +kernel
theorem dX10_nextPart_206 : decode cX10_nextPart 206 = .ok (.getfield 17, 3) := by decide +kernel
theorem dX10_nextPart_209 : decode cX10_nextPart 209 = .ok (.iload_n 1, 1) := by decide +kernel
theorem dX10_nextPart_210 : decode cX10_nextPart 210 = .ok (.iaload, 1) := by decide +kernel
theorem dX10_nextPart_211 : decode cX10_nextPart 211 = .ok (.bipush 124, 2) := by decide +kernel
theorem dX10_nextPart_213 : decode cX10_nextPart 213 = .ok (.if_icmp .ne 28, 3) := by decide +kernel
theorem dX10_nextPart_216 : decode cX10_nextPart 216 = .ok (.aload_n 0, 1) := by decide +kernel
theorem dX10_nextPart_217 : decode cX10_nextPart 217 = .ok (.getfield 73, 3) := by decide +kernel
theorem dX10_nextPart_220 : decode cX10_nextPart 220 = .ok (.aload_n 0, 1) := by decide +kernel
theorem dX10_nextPart_221 : decode cX10_nextPart 221 = .ok (.iload 4, 2) := by decide +kernel
theorem dX10_nextPart_223 : decode cX10_nextPart 223 = .ok (.invokevirtual 219, 3) := by decide +kernel
theorem dX10_nextPart_226 : decode cX10_nextPart 226 = .ok (.aload_n 0, 1) := by decide +kernel
theorem dX10_nextPart_227 : decode cX10_nextPart 227 = .ok (.getfield 66, 3) := by decide +kernel
theorem dX10_nextPart_230 : decode cX10_nextPart 230 = .ok (.aload_n 0, 1) := by decide +kernel
theorem dX10_nextPart_231 : decode cX10_nextPart 231 = .ok (.iload_n 3, 1) := by decide +kernel
theorem dX10_nextPart_232 : decode cX10_nextPart 232 = .ok (.invokevirtual 219, 3) := by decide +kernel
theorem dX10_nextPart_235 : decode cX10_nextPart 235 = .ok (.invokestatic 222, 3) := by decide +kernel
theorem dX10_nextPart_238 : decode cX10_nextPart 238 = .ok (.goto 24, 3) := by decide +kernel
theorem dX10_nextPart_241 : decode cX10_nextPart 241 = .ok (.aload_n 0, 1) := by decide +kernel
theorem dX10_nextPart_242 : decode cX10_nextPart 242 = .ok (.getfield 66, 3) := by decide +kernel
theorem dX10_nextPart_245 : decode cX10_nextPart 245 = .ok (.aload_n 0, 1) := by decide +kernel
theorem dX10_nextPart_246 : decode cX10_nextPart 246 = .ok (.iload_n 1, 1) := by decide +kernel
theorem dX10_nextPart_247 : decode cX10_nextPart 247 = .ok (.invokevirtual 219, 3) := by decide +kernel
theorem dX10_nextPart_250 : decode cX10_nextPart 250 = .ok (.aload_n 0, 1) := by decide +kernel
theorem dX10_nextPart_251 : decode cX10_nextPart 251 = .ok (.getfield 66, 3) := by decide +kernel
theorem dX10_nextPart_254 : decode cX10_nextPart 254 = .ok (.aload_n 0, 1) := by decide +kernel
theorem dX10_nextPart_255 : decode cX10_nextPart 255 = .ok (.iload_n 3, 1) := by decide +kernel
theorem dX10_nextPart_256 : decode cX10_nextPart 256 = .ok (.invokevirtual 219, 3) := by decide +kernel
theorem dX10_nextPart_259 : decode cX10_nextPart 259 = .ok (.invokestatic 222, 3) := by decide +kernel
theorem dX10_nextPart_262 : decode cX10_nextPart 262 = .ok (.iload_n 2, 1) := by decide +kernel
theorem dX10_nextPart_263 : decode cX10_nextPart 263 = .ok (.iconst 1, 1) := by decide +kernel
theorem dX10_nextPart_264 : decode cX10_nextPart 264 = .ok (.if_icmp .ne 20, 3) := by decide +kernel
theorem dX10_nextPart_267 : decode cX10_nextPart 267 = .ok (.aload_n 0, 1) := by decide +kernel
theorem dX10_nextPart_268 : decode cX10_nextPart 268 = .ok (.getfield 17, 3) := by decide +kernel
theorem dX10_nextPart_271 : decode cX10_nextPart 271 = .ok (.iload_n 1, 1) := by decide +kernel
theorem dX10_nextPart_272 : decode cX10_nextPart 272 = .ok (.iaload, 1) := by decide +kernel
theorem dX10_nextPart_273 : decode cX10_nextPart 273 = .ok (.bipush 58, 2) := by decide +kernel
theorem dX10_nextPart_275 : decode cX10_nextPart 275 = .ok (.if_icmp .ne 9, 3) := by decide +kernel
theorem dX10_nextPart_278 : decode cX10_nextPart 278 = .ok (.aload_n 0, 1) := by decide +kernel
theorem dX10_nextPart_279 : decode cX10_nextPart 279 = .ok (.iload_n 1, 1) := by decide +kernel
theorem dX10_nextPart_280 : decode cX10_nextPart 280 = .ok (.iload_n 3, 1) := by decide +kernel
theorem dX10_nextPart_281 : decode cX10_nextPart 281 = .ok (.invokevirtual 243, 3) := by decide +kernel
theorem dX10_nextPart_284 : decode cX10_nextPart 284 = .ok (.iload_n 3, 1) := by decide +kernel
theorem dX10_nextPart_285 : decode cX10_nextPart 285 = .ok (.ireturn, 1) := by decide +kernel
set_option maxRecDepth 20000 in
set_option maxHeartbeats 4000000 in
theorem w_X10_nextPart {c : rX} {d : Nat} {S : rS} {K : Option Value → rS → Prop} (ho : rOK c) (p0 : Int32) (p1 : Int32) (h : (¬ p1 = 0 → (rG c eX10_nextPart (d + 1) (rQ c K) 44 [some (.ref c.2.2.1), some (.int p0), some (.int p1), none, none] [] S)) ∧ (p1 = 0 → (rM c d eX10_five (.ref c.2.2.1 :: [.int p0]) S (fun v S2 => ∃ z3 : Int32, v = some (.int z3) ∧ (rM c d eX10_isImpossible [.ref (c.2.2.1 + (17 + 1)), .int z3] S2 (fun v S4 => ∃ z5 : Int32, v = some (.int z5) ∧ ((z5 = 0 → (rG c eX10_nextPart (d + 1) (rQ c K) 44 [some (.ref c.2.2.1), some (.int p0), some (.int p1), none, none] [] S4)) ∧ (¬ z5 = 0 → (rM c d eX10_clear [.ref (c.2.2.1 + (27 + 1)), .int 0] S4 (fun v S7 => v = none ∧ (rM c d eX10_clear [.ref (c.2.2.1 + (28 + 1)), .int 0] S7 (fun v S9 => v = none ∧ (rM c d eX10_finish (.ref c.2.2.1 :: [.int p0, .int 0, .int (-1)]) S9 (fun v S11 => v = none ∧ (K (some (.int (-1))) S11))))))))))))))) : rM c (d + 1) eX10_nextPart [.ref c.2.2.1, .int p0, .int p1] S K := by
  refine rM.of (by decide) (Nat.le_of_ble_eq_true rfl) ?_
  show rG c eX10_nextPart (d + 1) (rQ c K) 0 [some (.ref c.2.2.1), some (.int p0), some (.int p1), none, none] [] S
  refine ag_iload_n dX10_nextPart_0 rfl ?_
  refine ag_if_ne (tgt := 44) dX10_nextPart_1 rfl (fun hc1 => ?_) (fun hc1 => ?_)
  · have h := h.1 hc1
    exact h
  · have h := h.2 hc1
    refine ag_aload_n dX10_nextPart_4 rfl (Or.inr ⟨_, rfl⟩) ?_
    refine rr_get (v := .ref (c.2.2.1 + (17 + 1))) ho dX10_nextPart_5 fw_10_66 rfl ?_
    refine ag_aload_n dX10_nextPart_8 rfl (Or.inr ⟨_, rfl⟩) ?_
    refine ag_iload_n dX10_nextPart_9 rfl ?_
    refine rr_call (as := [.int p0]) (rest := [.ref (c.2.2.1 + (17 + 1))]) ho dX10_nextPart_10 me_X10_five mi_X10_five lk_10_219 rfl rfl (Nat.le_of_ble_eq_true rfl) ?_
    refine rM.mono h ?_
    rintro v S2 ⟨z3, rfl, h⟩
    show rG _ _ _ _ _ _ [.int z3, .ref (c.2.2.1 + (17 + 1))] _
    refine rr_calls (as := [.ref (c.2.2.1 + (17 + 1)), .int z3]) (rest := []) dX10_nextPart_13 me_X10_isImpossible ms_X10_isImpossible lk_10_211 rfl rfl (Nat.le_of_ble_eq_true rfl) ?_
    refine rM.mono h ?_
    rintro v S4 ⟨z5, rfl, h⟩
    show rG _ _ _ _ _ _ [.int z5] _
    refine ag_if_eq (tgt := 44) dX10_nextPart_16 rfl (fun hc6 => ?_) (fun hc6 => ?_)
    · have h := h.1 hc6
      exact h
    · have h := h.2 hc6
      refine ag_aload_n dX10_nextPart_19 rfl (Or.inr ⟨_, rfl⟩) ?_
      refine rr_get (v := .ref (c.2.2.1 + (27 + 1))) ho dX10_nextPart_20 fw_10_97 rfl ?_
      refine ag_iconst (v := 0) dX10_nextPart_23 rfl ?_
      refine rr_calls (as := [.ref (c.2.2.1 + (27 + 1)), .int 0]) (rest := []) dX10_nextPart_24 me_X10_clear ms_X10_clear lk_10_215 rfl rfl (Nat.le_of_ble_eq_true rfl) ?_
      refine rM.mono h ?_
      rintro v S7 ⟨rfl, h⟩
      show rG _ _ _ _ _ _ [] _
      refine ag_aload_n dX10_nextPart_27 rfl (Or.inr ⟨_, rfl⟩) ?_
      refine rr_get (v := .ref (c.2.2.1 + (28 + 1))) ho dX10_nextPart_28 fw_10_100 rfl ?_
      refine ag_iconst (v := 0) dX10_nextPart_31 rfl ?_
      refine rr_calls (as := [.ref (c.2.2.1 + (28 + 1)), .int 0]) (rest := []) dX10_nextPart_32 me_X10_clear ms_X10_clear lk_10_215 rfl rfl (Nat.le_of_ble_eq_true rfl) ?_
      refine rM.mono h ?_
      rintro v S9 ⟨rfl, h⟩
      show rG _ _ _ _ _ _ [] _
      refine ag_aload_n dX10_nextPart_35 rfl (Or.inr ⟨_, rfl⟩) ?_
      refine ag_iload_n dX10_nextPart_36 rfl ?_
      refine ag_iconst (v := 0) dX10_nextPart_37 rfl ?_
      refine ag_iconst (v := (-1)) dX10_nextPart_38 rfl ?_
      refine rr_call (as := [.int p0, .int 0, .int (-1)]) (rest := []) ho dX10_nextPart_39 me_X10_finish mi_X10_finish lk_10_235 rfl rfl (Nat.le_of_ble_eq_true rfl) ?_
      refine rM.mono h ?_
      rintro v S11 ⟨rfl, h⟩
      show rG _ _ _ _ _ _ [] _
      refine ag_iconst (v := (-1)) dX10_nextPart_42 rfl ?_
      exact ag_ret (v := some (.int (-1))) dX10_nextPart_43 ⟨_, rfl, rfl⟩ ⟨_, rfl, _, rfl, h⟩ rfl
set_option maxRecDepth 20000 in
set_option maxHeartbeats 4000000 in
theorem w_X10_nextPart_44 {c : rX} {d : Nat} {S : rS} {K : Option Value → rS → Prop} (ho : rOK c) (v1 : Int32) (v2 : Int32) (h : (¬ v2 = 0 → ((¬ v2 = 1 → ((¬ v2 = 2 → (rG c eX10_nextPart (d + 1) (rQ c K) 86 [some (.ref c.2.2.1), some (.int v1), some (.int v2), none, none] [.int (-1)] S)) ∧ (v2 = 2 → (∃ j4 : Nat, am_ix v1 j4 320 ∧ (rG c eX10_nextPart (d + 1) (rQ c K) 86 [some (.ref c.2.2.1), some (.int v1), some (.int v2), none, none] [.int (S.1 7 j4)] S))))) ∧ (v2 = 1 → (∃ j6 : Nat, am_ix v1 j6 320 ∧ (rG c eX10_nextPart (d + 1) (rQ c K) 86 [some (.ref c.2.2.1), some (.int v1), some (.int v2), none, none] [.int (S.1 6 j6)] S))))) ∧ (v2 = 0 → (∃ j8 : Nat, am_ix v1 j8 320 ∧ (rG c eX10_nextPart (d + 1) (rQ c K) 86 [some (.ref c.2.2.1), some (.int v1), some (.int v2), none, none] [.int (S.1 5 j8)] S)))) : rG c eX10_nextPart (d + 1) (rQ c K) 44 [some (.ref c.2.2.1), some (.int v1), some (.int v2), none, none] [] S := by
  refine ag_iload_n dX10_nextPart_44 rfl ?_
  refine ag_if_ne (tgt := 57) dX10_nextPart_45 rfl (fun hc1 => ?_) (fun hc1 => ?_)
  · have h := h.1 hc1
    refine ag_iload_n dX10_nextPart_57 rfl ?_
    refine ag_iconst (v := 1) dX10_nextPart_58 rfl ?_
    refine ag_icmp_ne (tgt := 71) dX10_nextPart_59 rfl (fun hc2 => ?_) (fun hc2 => ?_)
    · have h := h.1 hc2
      refine ag_iload_n dX10_nextPart_71 rfl ?_
      refine ag_iconst (v := 2) dX10_nextPart_72 rfl ?_
      refine ag_icmp_ne (tgt := 85) dX10_nextPart_73 rfl (fun hc3 => ?_) (fun hc3 => ?_)
      · have h := h.1 hc3
        refine ag_iconst (v := (-1)) dX10_nextPart_85 rfl ?_
        exact h
      · have h := h.2 hc3
        refine ag_aload_n dX10_nextPart_76 rfl (Or.inr ⟨_, rfl⟩) ?_
        refine rr_get (v := .ref (c.2.2.1 + (4 + 1))) ho dX10_nextPart_77 fw_10_26 rfl ?_
        refine ag_iload_n dX10_nextPart_80 rfl ?_
        obtain ⟨j4, hj5, h⟩ := h
        refine rr_il (v := S.1 7 j4) ho dX10_nextPart_81 (k := 4) (f := 7) rfl hj5 rfl ?_
        refine ag_goto (tgt := 86) dX10_nextPart_82 rfl ?_
        exact h
    · have h := h.2 hc2
      refine ag_aload_n dX10_nextPart_62 rfl (Or.inr ⟨_, rfl⟩) ?_
      refine rr_get (v := .ref (c.2.2.1 + (3 + 1))) ho dX10_nextPart_63 fw_10_23 rfl ?_
      refine ag_iload_n dX10_nextPart_66 rfl ?_
      obtain ⟨j6, hj7, h⟩ := h
      refine rr_il (v := S.1 6 j6) ho dX10_nextPart_67 (k := 3) (f := 6) rfl hj7 rfl ?_
      refine ag_goto (tgt := 86) dX10_nextPart_68 rfl ?_
      exact h
  · have h := h.2 hc1
    refine ag_aload_n dX10_nextPart_48 rfl (Or.inr ⟨_, rfl⟩) ?_
    refine rr_get (v := .ref (c.2.2.1 + (2 + 1))) ho dX10_nextPart_49 fw_10_20 rfl ?_
    refine ag_iload_n dX10_nextPart_52 rfl ?_
    obtain ⟨j8, hj9, h⟩ := h
    refine rr_il (v := S.1 5 j8) ho dX10_nextPart_53 (k := 2) (f := 5) rfl hj9 rfl ?_
    refine ag_goto (tgt := 86) dX10_nextPart_54 rfl ?_
    exact h
set_option maxRecDepth 20000 in
set_option maxHeartbeats 4000000 in
theorem w_X10_nextPart_86 {c : rX} {d : Nat} {S : rS} {K : Option Value → rS → Prop} (ho : rOK c) (v1 : Int32) (v2 : Int32) (s0 : Int32) (h : (¬ s0 = (-1) → (∃ j2 : Nat, am_ix v1 j2 320 ∧ ((v2 ≤ 0 → (rG c eX10_nextPart (d + 1) (rQ c K) 159 [some (.ref c.2.2.1), some (.int v1), some (.int v2), some (.int s0), some (.int (S.1 5 j2))] [] S)) ∧ (¬ v2 ≤ 0 → (∃ j5 : Nat, am_ix v1 j5 320 ∧ ((¬ (S.1 4 j5) = 63 → (rG c eX10_nextPart (d + 1) (rQ c K) 159 [some (.ref c.2.2.1), some (.int v1), some (.int v2), some (.int s0), some (.int (S.1 5 j2))] [] S)) ∧ ((S.1 4 j5) = 63 → ((¬ v2 = 1 → (rG c eX10_nextPart (d + 1) (rQ c K) 138 [some (.ref c.2.2.1), some (.int v1), some (.int v2), some (.int s0), some (.int (S.1 5 j2))] [.ref (c.2.2.1 + (19 + 1))] S)) ∧ (v2 = 1 → (rG c eX10_nextPart (d + 1) (rQ c K) 138 [some (.ref c.2.2.1), some (.int v1), some (.int v2), some (.int s0), some (.int (S.1 5 j2))] [.ref (c.2.2.1 + (18 + 1))] S)))))))))) ∧ (s0 = (-1) → (rM c d eX10_conclude (.ref c.2.2.1 :: [.int v1]) S (fun v S9 => v = none ∧ (K (some (.int (-1))) S9))))) : rG c eX10_nextPart (d + 1) (rQ c K) 86 [some (.ref c.2.2.1), some (.int v1), some (.int v2), none, none] [.int s0] S := by
  refine ag_istore_n (lv2 := [some (.ref c.2.2.1), some (.int v1), some (.int v2), some (.int s0), none]) dX10_nextPart_86 (Nat.le_of_ble_eq_true rfl) rfl ?_
  refine ag_iload_n dX10_nextPart_87 rfl ?_
  refine ag_iconst (v := (-1)) dX10_nextPart_88 rfl ?_
  refine ag_icmp_ne (tgt := 99) dX10_nextPart_89 rfl (fun hc1 => ?_) (fun hc1 => ?_)
  · have h := h.1 hc1
    refine ag_aload_n dX10_nextPart_99 rfl (Or.inr ⟨_, rfl⟩) ?_
    refine rr_get (v := .ref (c.2.2.1 + (2 + 1))) ho dX10_nextPart_100 fw_10_20 rfl ?_
    refine ag_iload_n dX10_nextPart_103 rfl ?_
    obtain ⟨j2, hj3, h⟩ := h
    refine rr_il (v := S.1 5 j2) ho dX10_nextPart_104 (k := 2) (f := 5) rfl hj3 rfl ?_
    refine ag_istore (lv2 := [some (.ref c.2.2.1), some (.int v1), some (.int v2), some (.int s0), some (.int (S.1 5 j2))]) dX10_nextPart_105 (Nat.le_of_ble_eq_true rfl) rfl ?_
    refine ag_iload_n dX10_nextPart_107 rfl ?_
    refine ag_if_le (tgt := 159) dX10_nextPart_108 rfl (fun hc4 => ?_) (fun hc4 => ?_)
    · have h := h.1 hc4
      exact h
    · have h := h.2 hc4
      refine ag_aload_n dX10_nextPart_111 rfl (Or.inr ⟨_, rfl⟩) ?_
      refine rr_get (v := .ref (c.2.2.1 + (1 + 1))) ho dX10_nextPart_112 fw_10_17 rfl ?_
      refine ag_iload_n dX10_nextPart_115 rfl ?_
      obtain ⟨j5, hj6, h⟩ := h
      refine rr_il (v := S.1 4 j5) ho dX10_nextPart_116 (k := 1) (f := 4) rfl hj6 rfl ?_
      refine ag_bipush (v := 63) dX10_nextPart_117 (by decide) ?_
      refine ag_icmp_ne (tgt := 159) dX10_nextPart_119 rfl (fun hc7 => ?_) (fun hc7 => ?_)
      · have h := h.1 hc7
        exact h
      · have h := h.2 hc7
        refine ag_iload_n dX10_nextPart_122 rfl ?_
        refine ag_iconst (v := 1) dX10_nextPart_123 rfl ?_
        refine ag_icmp_ne (tgt := 134) dX10_nextPart_124 rfl (fun hc8 => ?_) (fun hc8 => ?_)
        · have h := h.1 hc8
          refine ag_aload_n dX10_nextPart_134 rfl (Or.inr ⟨_, rfl⟩) ?_
          refine rr_get (v := .ref (c.2.2.1 + (19 + 1))) ho dX10_nextPart_135 fw_10_73 rfl ?_
          exact h
        · have h := h.2 hc8
          refine ag_aload_n dX10_nextPart_127 rfl (Or.inr ⟨_, rfl⟩) ?_
          refine rr_get (v := .ref (c.2.2.1 + (18 + 1))) ho dX10_nextPart_128 fw_10_70 rfl ?_
          refine ag_goto (tgt := 138) dX10_nextPart_131 rfl ?_
          exact h
  · have h := h.2 hc1
    refine ag_aload_n dX10_nextPart_92 rfl (Or.inr ⟨_, rfl⟩) ?_
    refine ag_iload_n dX10_nextPart_93 rfl ?_
    refine rr_call (as := [.int v1]) (rest := []) ho dX10_nextPart_94 me_X10_conclude mi_X10_conclude lk_10_239 rfl rfl (Nat.le_of_ble_eq_true rfl) ?_
    refine rM.mono h ?_
    rintro v S9 ⟨rfl, h⟩
    show rG _ _ _ _ _ _ [] _
    refine ag_iconst (v := (-1)) dX10_nextPart_97 rfl ?_
    exact ag_ret (v := some (.int (-1))) dX10_nextPart_98 ⟨_, rfl, rfl⟩ ⟨_, rfl, _, rfl, h⟩ rfl
set_option maxRecDepth 20000 in
set_option maxHeartbeats 4000000 in
theorem w_X10_nextPart_138 {c : rX} {d : Nat} {S : rS} {K : Option Value → rS → Prop} (ho : rOK c) (v1 : Int32) (v2 : Int32) (v3 : Int32) (v4 : Int32) (h : rM c d eX10_five (.ref c.2.2.1 :: [.int v4]) S (fun v S1 => ∃ z2 : Int32, v = some (.int z2) ∧ (rM c d eX10_five (.ref c.2.2.1 :: [.int v3]) S1 (fun v S3 => ∃ z4 : Int32, v = some (.int z4) ∧ (rM c d eX10_copy [.ref (c.2.2.1 + (18 + 1)), .int z2, .ref (c.2.2.1 + (17 + 1)), .int z4] S3 (fun v S5 => v = none ∧ (rG c eX10_nextPart (d + 1) (rQ c K) 262 [some (.ref c.2.2.1), some (.int v1), some (.int v2), some (.int v3), none] [] S5))))))) : rG c eX10_nextPart (d + 1) (rQ c K) 138 [some (.ref c.2.2.1), some (.int v1), some (.int v2), some (.int v3), some (.int v4)] [.ref (c.2.2.1 + (18 + 1))] S := by
  refine ag_aload_n dX10_nextPart_138 rfl (Or.inr ⟨_, rfl⟩) ?_
  refine ag_iload dX10_nextPart_139 rfl ?_
  refine rr_call (as := [.int v4]) (rest := [.ref (c.2.2.1 + (18 + 1))]) ho dX10_nextPart_141 me_X10_five mi_X10_five lk_10_219 rfl rfl (Nat.le_of_ble_eq_true rfl) ?_
  refine rM.mono h ?_
  rintro v S1 ⟨z2, rfl, h⟩
  show rG _ _ _ _ _ _ [.int z2, .ref (c.2.2.1 + (18 + 1))] _
  refine ag_aload_n dX10_nextPart_144 rfl (Or.inr ⟨_, rfl⟩) ?_
  refine rr_get (v := .ref (c.2.2.1 + (17 + 1))) ho dX10_nextPart_145 fw_10_66 rfl ?_
  refine ag_aload_n dX10_nextPart_148 rfl (Or.inr ⟨_, rfl⟩) ?_
  refine ag_iload_n dX10_nextPart_149 rfl ?_
  refine rr_call (as := [.int v3]) (rest := [.ref (c.2.2.1 + (17 + 1)), .int z2, .ref (c.2.2.1 + (18 + 1))]) ho dX10_nextPart_150 me_X10_five mi_X10_five lk_10_219 rfl rfl (Nat.le_of_ble_eq_true rfl) ?_
  refine rM.mono h ?_
  rintro v S3 ⟨z4, rfl, h⟩
  show rG _ _ _ _ _ _ [.int z4, .ref (c.2.2.1 + (17 + 1)), .int z2, .ref (c.2.2.1 + (18 + 1))] _
  refine rr_calls (as := [.ref (c.2.2.1 + (18 + 1)), .int z2, .ref (c.2.2.1 + (17 + 1)), .int z4]) (rest := []) dX10_nextPart_153 me_X10_copy ms_X10_copy lk_10_222 rfl rfl (Nat.le_of_ble_eq_true rfl) ?_
  refine rM.mono h ?_
  rintro v S5 ⟨rfl, h⟩
  show rG _ _ _ _ _ _ [] _
  refine ag_goto (tgt := 262) dX10_nextPart_156 rfl ?_
  refine ag_drop 4 ?_
  exact h
set_option maxRecDepth 20000 in
set_option maxHeartbeats 4000000 in
theorem w_X10_nextPart_159 {c : rX} {d : Nat} {S : rS} {K : Option Value → rS → Prop} (ho : rOK c) (v1 : Int32) (v2 : Int32) (v3 : Int32) (v4 : Int32) (h : (¬ v2 = 1 → (rG c eX10_nextPart (d + 1) (rQ c K) 200 [some (.ref c.2.2.1), some (.int v1), some (.int v2), some (.int v3), some (.int v4)] [] S)) ∧ (v2 = 1 → (∃ j2 : Nat, am_ix v1 j2 320 ∧ ((¬ (S.1 4 j2) = 38 → (rG c eX10_nextPart (d + 1) (rQ c K) 200 [some (.ref c.2.2.1), some (.int v1), some (.int v2), some (.int v3), some (.int v4)] [] S)) ∧ ((S.1 4 j2) = 38 → (rM c d eX10_five (.ref c.2.2.1 :: [.int v4]) S (fun v S5 => ∃ z6 : Int32, v = some (.int z6) ∧ (rM c d eX10_five (.ref c.2.2.1 :: [.int v3]) S5 (fun v S7 => ∃ z8 : Int32, v = some (.int z8) ∧ (rM c d eX10_copy [.ref (c.2.2.1 + (18 + 1)), .int z6, .ref (c.2.2.1 + (17 + 1)), .int z8] S7 (fun v S9 => v = none ∧ (rG c eX10_nextPart (d + 1) (rQ c K) 262 [some (.ref c.2.2.1), some (.int v1), some (.int v2), some (.int v3), none] [] S9)))))))))))) : rG c eX10_nextPart (d + 1) (rQ c K) 159 [some (.ref c.2.2.1), some (.int v1), some (.int v2), some (.int v3), some (.int v4)] [] S := by
  refine ag_iload_n dX10_nextPart_159 rfl ?_
  refine ag_iconst (v := 1) dX10_nextPart_160 rfl ?_
  refine ag_icmp_ne (tgt := 200) dX10_nextPart_161 rfl (fun hc1 => ?_) (fun hc1 => ?_)
  · have h := h.1 hc1
    exact h
  · have h := h.2 hc1
    refine ag_aload_n dX10_nextPart_164 rfl (Or.inr ⟨_, rfl⟩) ?_
    refine rr_get (v := .ref (c.2.2.1 + (1 + 1))) ho dX10_nextPart_165 fw_10_17 rfl ?_
    refine ag_iload_n dX10_nextPart_168 rfl ?_
    obtain ⟨j2, hj3, h⟩ := h
    refine rr_il (v := S.1 4 j2) ho dX10_nextPart_169 (k := 1) (f := 4) rfl hj3 rfl ?_
    refine ag_bipush (v := 38) dX10_nextPart_170 (by decide) ?_
    refine ag_icmp_ne (tgt := 200) dX10_nextPart_172 rfl (fun hc4 => ?_) (fun hc4 => ?_)
    · have h := h.1 hc4
      exact h
    · have h := h.2 hc4
      refine ag_aload_n dX10_nextPart_175 rfl (Or.inr ⟨_, rfl⟩) ?_
      refine rr_get (v := .ref (c.2.2.1 + (18 + 1))) ho dX10_nextPart_176 fw_10_70 rfl ?_
      refine ag_aload_n dX10_nextPart_179 rfl (Or.inr ⟨_, rfl⟩) ?_
      refine ag_iload dX10_nextPart_180 rfl ?_
      refine rr_call (as := [.int v4]) (rest := [.ref (c.2.2.1 + (18 + 1))]) ho dX10_nextPart_182 me_X10_five mi_X10_five lk_10_219 rfl rfl (Nat.le_of_ble_eq_true rfl) ?_
      refine rM.mono h ?_
      rintro v S5 ⟨z6, rfl, h⟩
      show rG _ _ _ _ _ _ [.int z6, .ref (c.2.2.1 + (18 + 1))] _
      refine ag_aload_n dX10_nextPart_185 rfl (Or.inr ⟨_, rfl⟩) ?_
      refine rr_get (v := .ref (c.2.2.1 + (17 + 1))) ho dX10_nextPart_186 fw_10_66 rfl ?_
      refine ag_aload_n dX10_nextPart_189 rfl (Or.inr ⟨_, rfl⟩) ?_
      refine ag_iload_n dX10_nextPart_190 rfl ?_
      refine rr_call (as := [.int v3]) (rest := [.ref (c.2.2.1 + (17 + 1)), .int z6, .ref (c.2.2.1 + (18 + 1))]) ho dX10_nextPart_191 me_X10_five mi_X10_five lk_10_219 rfl rfl (Nat.le_of_ble_eq_true rfl) ?_
      refine rM.mono h ?_
      rintro v S7 ⟨z8, rfl, h⟩
      show rG _ _ _ _ _ _ [.int z8, .ref (c.2.2.1 + (17 + 1)), .int z6, .ref (c.2.2.1 + (18 + 1))] _
      refine rr_calls (as := [.ref (c.2.2.1 + (18 + 1)), .int z6, .ref (c.2.2.1 + (17 + 1)), .int z8]) (rest := []) dX10_nextPart_194 me_X10_copy ms_X10_copy lk_10_222 rfl rfl (Nat.le_of_ble_eq_true rfl) ?_
      refine rM.mono h ?_
      rintro v S9 ⟨rfl, h⟩
      show rG _ _ _ _ _ _ [] _
      refine ag_goto (tgt := 262) dX10_nextPart_197 rfl ?_
      refine ag_drop 4 ?_
      exact h
set_option maxRecDepth 20000 in
set_option maxHeartbeats 4000000 in
theorem w_X10_nextPart_200 {c : rX} {d : Nat} {S : rS} {K : Option Value → rS → Prop} (ho : rOK c) (v1 : Int32) (v2 : Int32) (v3 : Int32) (v4 : Int32) (h : (¬ v2 = 1 → (rG c eX10_nextPart (d + 1) (rQ c K) 241 [some (.ref c.2.2.1), some (.int v1), some (.int v2), some (.int v3), none] [] S)) ∧ (v2 = 1 → (∃ j2 : Nat, am_ix v1 j2 320 ∧ ((¬ (S.1 4 j2) = 124 → (rG c eX10_nextPart (d + 1) (rQ c K) 241 [some (.ref c.2.2.1), some (.int v1), some (.int v2), some (.int v3), none] [] S)) ∧ ((S.1 4 j2) = 124 → (rM c d eX10_five (.ref c.2.2.1 :: [.int v4]) S (fun v S5 => ∃ z6 : Int32, v = some (.int z6) ∧ (rM c d eX10_five (.ref c.2.2.1 :: [.int v3]) S5 (fun v S7 => ∃ z8 : Int32, v = some (.int z8) ∧ (rM c d eX10_copy [.ref (c.2.2.1 + (19 + 1)), .int z6, .ref (c.2.2.1 + (17 + 1)), .int z8] S7 (fun v S9 => v = none ∧ (rG c eX10_nextPart (d + 1) (rQ c K) 262 [some (.ref c.2.2.1), some (.int v1), some (.int v2), some (.int v3), none] [] S9)))))))))))) : rG c eX10_nextPart (d + 1) (rQ c K) 200 [some (.ref c.2.2.1), some (.int v1), some (.int v2), some (.int v3), some (.int v4)] [] S := by
  refine ag_iload_n dX10_nextPart_200 rfl ?_
  refine ag_iconst (v := 1) dX10_nextPart_201 rfl ?_
  refine ag_icmp_ne (tgt := 241) dX10_nextPart_202 rfl (fun hc1 => ?_) (fun hc1 => ?_)
  · have h := h.1 hc1
    refine ag_drop 4 ?_
    exact h
  · have h := h.2 hc1
    refine ag_aload_n dX10_nextPart_205 rfl (Or.inr ⟨_, rfl⟩) ?_
    refine rr_get (v := .ref (c.2.2.1 + (1 + 1))) ho dX10_nextPart_206 fw_10_17 rfl ?_
    refine ag_iload_n dX10_nextPart_209 rfl ?_
    obtain ⟨j2, hj3, h⟩ := h
    refine rr_il (v := S.1 4 j2) ho dX10_nextPart_210 (k := 1) (f := 4) rfl hj3 rfl ?_
    refine ag_bipush (v := 124) dX10_nextPart_211 (by decide) ?_
    refine ag_icmp_ne (tgt := 241) dX10_nextPart_213 rfl (fun hc4 => ?_) (fun hc4 => ?_)
    · have h := h.1 hc4
      refine ag_drop 4 ?_
      exact h
    · have h := h.2 hc4
      refine ag_aload_n dX10_nextPart_216 rfl (Or.inr ⟨_, rfl⟩) ?_
      refine rr_get (v := .ref (c.2.2.1 + (19 + 1))) ho dX10_nextPart_217 fw_10_73 rfl ?_
      refine ag_aload_n dX10_nextPart_220 rfl (Or.inr ⟨_, rfl⟩) ?_
      refine ag_iload dX10_nextPart_221 rfl ?_
      refine rr_call (as := [.int v4]) (rest := [.ref (c.2.2.1 + (19 + 1))]) ho dX10_nextPart_223 me_X10_five mi_X10_five lk_10_219 rfl rfl (Nat.le_of_ble_eq_true rfl) ?_
      refine rM.mono h ?_
      rintro v S5 ⟨z6, rfl, h⟩
      show rG _ _ _ _ _ _ [.int z6, .ref (c.2.2.1 + (19 + 1))] _
      refine ag_aload_n dX10_nextPart_226 rfl (Or.inr ⟨_, rfl⟩) ?_
      refine rr_get (v := .ref (c.2.2.1 + (17 + 1))) ho dX10_nextPart_227 fw_10_66 rfl ?_
      refine ag_aload_n dX10_nextPart_230 rfl (Or.inr ⟨_, rfl⟩) ?_
      refine ag_iload_n dX10_nextPart_231 rfl ?_
      refine rr_call (as := [.int v3]) (rest := [.ref (c.2.2.1 + (17 + 1)), .int z6, .ref (c.2.2.1 + (19 + 1))]) ho dX10_nextPart_232 me_X10_five mi_X10_five lk_10_219 rfl rfl (Nat.le_of_ble_eq_true rfl) ?_
      refine rM.mono h ?_
      rintro v S7 ⟨z8, rfl, h⟩
      show rG _ _ _ _ _ _ [.int z8, .ref (c.2.2.1 + (17 + 1)), .int z6, .ref (c.2.2.1 + (19 + 1))] _
      refine rr_calls (as := [.ref (c.2.2.1 + (19 + 1)), .int z6, .ref (c.2.2.1 + (17 + 1)), .int z8]) (rest := []) dX10_nextPart_235 me_X10_copy ms_X10_copy lk_10_222 rfl rfl (Nat.le_of_ble_eq_true rfl) ?_
      refine rM.mono h ?_
      rintro v S9 ⟨rfl, h⟩
      show rG _ _ _ _ _ _ [] _
      refine ag_goto (tgt := 262) dX10_nextPart_238 rfl ?_
      refine ag_drop 4 ?_
      exact h
set_option maxRecDepth 20000 in
set_option maxHeartbeats 4000000 in
theorem w_X10_nextPart_241 {c : rX} {d : Nat} {S : rS} {K : Option Value → rS → Prop} (ho : rOK c) (v1 : Int32) (v2 : Int32) (v3 : Int32) (h : rM c d eX10_five (.ref c.2.2.1 :: [.int v1]) S (fun v S1 => ∃ z2 : Int32, v = some (.int z2) ∧ (rM c d eX10_five (.ref c.2.2.1 :: [.int v3]) S1 (fun v S3 => ∃ z4 : Int32, v = some (.int z4) ∧ (rM c d eX10_copy [.ref (c.2.2.1 + (17 + 1)), .int z2, .ref (c.2.2.1 + (17 + 1)), .int z4] S3 (fun v S5 => v = none ∧ (rG c eX10_nextPart (d + 1) (rQ c K) 262 [some (.ref c.2.2.1), some (.int v1), some (.int v2), some (.int v3), none] [] S5))))))) : rG c eX10_nextPart (d + 1) (rQ c K) 241 [some (.ref c.2.2.1), some (.int v1), some (.int v2), some (.int v3), none] [] S := by
  refine ag_aload_n dX10_nextPart_241 rfl (Or.inr ⟨_, rfl⟩) ?_
  refine rr_get (v := .ref (c.2.2.1 + (17 + 1))) ho dX10_nextPart_242 fw_10_66 rfl ?_
  refine ag_aload_n dX10_nextPart_245 rfl (Or.inr ⟨_, rfl⟩) ?_
  refine ag_iload_n dX10_nextPart_246 rfl ?_
  refine rr_call (as := [.int v1]) (rest := [.ref (c.2.2.1 + (17 + 1))]) ho dX10_nextPart_247 me_X10_five mi_X10_five lk_10_219 rfl rfl (Nat.le_of_ble_eq_true rfl) ?_
  refine rM.mono h ?_
  rintro v S1 ⟨z2, rfl, h⟩
  show rG _ _ _ _ _ _ [.int z2, .ref (c.2.2.1 + (17 + 1))] _
  refine ag_aload_n dX10_nextPart_250 rfl (Or.inr ⟨_, rfl⟩) ?_
  refine rr_get (v := .ref (c.2.2.1 + (17 + 1))) ho dX10_nextPart_251 fw_10_66 rfl ?_
  refine ag_aload_n dX10_nextPart_254 rfl (Or.inr ⟨_, rfl⟩) ?_
  refine ag_iload_n dX10_nextPart_255 rfl ?_
  refine rr_call (as := [.int v3]) (rest := [.ref (c.2.2.1 + (17 + 1)), .int z2, .ref (c.2.2.1 + (17 + 1))]) ho dX10_nextPart_256 me_X10_five mi_X10_five lk_10_219 rfl rfl (Nat.le_of_ble_eq_true rfl) ?_
  refine rM.mono h ?_
  rintro v S3 ⟨z4, rfl, h⟩
  show rG _ _ _ _ _ _ [.int z4, .ref (c.2.2.1 + (17 + 1)), .int z2, .ref (c.2.2.1 + (17 + 1))] _
  refine rr_calls (as := [.ref (c.2.2.1 + (17 + 1)), .int z2, .ref (c.2.2.1 + (17 + 1)), .int z4]) (rest := []) dX10_nextPart_259 me_X10_copy ms_X10_copy lk_10_222 rfl rfl (Nat.le_of_ble_eq_true rfl) ?_
  refine rM.mono h ?_
  rintro v S5 ⟨rfl, h⟩
  show rG _ _ _ _ _ _ [] _
  exact h
set_option maxRecDepth 20000 in
set_option maxHeartbeats 4000000 in
theorem w_X10_nextPart_262 {c : rX} {d : Nat} {S : rS} {K : Option Value → rS → Prop} (ho : rOK c) (v1 : Int32) (v2 : Int32) (v3 : Int32) (h : (¬ v2 = 1 → (K (some (.int v3)) S)) ∧ (v2 = 1 → (∃ j2 : Nat, am_ix v1 j2 320 ∧ ((¬ (S.1 4 j2) = 58 → (K (some (.int v3)) S)) ∧ ((S.1 4 j2) = 58 → (rM c d eX10_enter (.ref c.2.2.1 :: [.int v1, .int v3]) S (fun v S5 => v = none ∧ (K (some (.int v3)) S5)))))))) : rG c eX10_nextPart (d + 1) (rQ c K) 262 [some (.ref c.2.2.1), some (.int v1), some (.int v2), some (.int v3), none] [] S := by
  refine ag_iload_n dX10_nextPart_262 rfl ?_
  refine ag_iconst (v := 1) dX10_nextPart_263 rfl ?_
  refine ag_icmp_ne (tgt := 284) dX10_nextPart_264 rfl (fun hc1 => ?_) (fun hc1 => ?_)
  · have h := h.1 hc1
    refine ag_iload_n dX10_nextPart_284 rfl ?_
    exact ag_ret (v := some (.int v3)) dX10_nextPart_285 ⟨_, rfl, rfl⟩ ⟨_, rfl, _, rfl, h⟩ rfl
  · have h := h.2 hc1
    refine ag_aload_n dX10_nextPart_267 rfl (Or.inr ⟨_, rfl⟩) ?_
    refine rr_get (v := .ref (c.2.2.1 + (1 + 1))) ho dX10_nextPart_268 fw_10_17 rfl ?_
    refine ag_iload_n dX10_nextPart_271 rfl ?_
    obtain ⟨j2, hj3, h⟩ := h
    refine rr_il (v := S.1 4 j2) ho dX10_nextPart_272 (k := 1) (f := 4) rfl hj3 rfl ?_
    refine ag_bipush (v := 58) dX10_nextPart_273 (by decide) ?_
    refine ag_icmp_ne (tgt := 284) dX10_nextPart_275 rfl (fun hc4 => ?_) (fun hc4 => ?_)
    · have h := h.1 hc4
      refine ag_iload_n dX10_nextPart_284 rfl ?_
      exact ag_ret (v := some (.int v3)) dX10_nextPart_285 ⟨_, rfl, rfl⟩ ⟨_, rfl, _, rfl, h⟩ rfl
    · have h := h.2 hc4
      refine ag_aload_n dX10_nextPart_278 rfl (Or.inr ⟨_, rfl⟩) ?_
      refine ag_iload_n dX10_nextPart_279 rfl ?_
      refine ag_iload_n dX10_nextPart_280 rfl ?_
      refine rr_call (as := [.int v1, .int v3]) (rest := []) ho dX10_nextPart_281 me_X10_enter mi_X10_enter lk_10_243 rfl rfl (Nat.le_of_ble_eq_true rfl) ?_
      refine rM.mono h ?_
      rintro v S5 ⟨rfl, h⟩
      show rG _ _ _ _ _ _ [] _
      refine ag_iload_n dX10_nextPart_284 rfl ?_
      exact ag_ret (v := some (.int v3)) dX10_nextPart_285 ⟨_, rfl, rfl⟩ ⟨_, rfl, _, rfl, h⟩ rfl
theorem dX10_enter_0 : decode cX10_enter 0 = .ok (.aload_n 0, 1) := by decide +kernel
theorem dX10_enter_1 : decode cX10_enter 1 = .ok (.getfield 29, 3) := by decide +kernel
theorem dX10_enter_4 : decode cX10_enter 4 = .ok (.iload_n 1, 1) := by decide +kernel
theorem dX10_enter_5 : decode cX10_enter 5 = .ok (.iaload, 1) := by decide +kernel
theorem dX10_enter_6 : decode cX10_enter 6 = .ok (.istore_n 3, 1) := by decide +kernel
theorem dX10_enter_7 : decode cX10_enter 7 = .ok (.aload_n 0, 1) := by decide +kernel
theorem dX10_enter_8 : decode cX10_enter 8 = .ok (.getfield 20, 3) := by decide +kernel
theorem dX10_enter_11 : decode cX10_enter 11 = .ok (.iload_n 1, 1) := by decide +kernel
theorem dX10_enter_12 : decode cX10_enter 12 = .ok (.iaload, 1) := by decide +kernel
theorem dX10_enter_13 : decode cX10_enter 13 = .ok (.istore 4, 2) := by decide +kernel
theorem dX10_enter_15 : decode cX10_enter 15 = .ok (.aload_n 0, 1) := by decide +kernel
theorem dX10_enter_16 : decode cX10_enter 16 = .ok (.getfield 88, 3) := by decide +kernel
theorem dX10_enter_19 : decode cX10_enter 19 = .ok (.iload_n 3, 1) := by decide +kernel
theorem dX10_enter_20 : decode cX10_enter 20 = .ok (.aload_n 0, 1) := by decide +kernel
theorem dX10_enter_21 : decode cX10_enter 21 = .ok (.iload 4, 2) := by decide +kernel
theorem dX10_enter_23 : decode cX10_enter 23 = .ok (.invokevirtual 246, 3) := by decide +kernel
theorem dX10_enter_26 : decode cX10_enter 26 = .ok (.iconst (-1), 1) := by decide +kernel
theorem dX10_enter_27 : decode cX10_enter 27 = .ok (.if_icmp .ne 7, 3) := by decide +kernel
theorem dX10_enter_30 : decode cX10_enter 30 = .ok (.iconst 1, 1) := by decide +kernel
theorem dX10_enter_31 : decode cX10_enter 31 = .ok (.goto 4, 3) := by decide +kernel
theorem dX10_enter_34 : decode cX10_enter 34 = .ok (.iconst 0, 1) := by decide +kernel
theorem dX10_enter_35 : decode cX10_enter 35 = .ok (.bastore, 1) := by decide +kernel
theorem dX10_enter_36 : decode cX10_enter 36 = .ok (.aload_n 0, 1) := by decide +kernel
theorem dX10_enter_37 : decode cX10_enter 37 = .ok (.getfield 85, 3) := by decide +kernel
theorem dX10_enter_40 : decode cX10_enter 40 = .ok (.iload_n 3, 1) := by decide +kernel
theorem dX10_enter_41 : decode cX10_enter 41 = .ok (.aload_n 0, 1) := by decide +kernel
theorem dX10_enter_42 : decode cX10_enter 42 = .ok (.getfield 88, 3) := by decide +kernel
theorem dX10_enter_45 : decode cX10_enter 45 = .ok (.iload_n 3, 1) := by decide +kernel
theorem dX10_enter_46 : decode cX10_enter 46 = .ok (.baload, 1) := by decide +kernel
theorem dX10_enter_47 : decode cX10_enter 47 = .ok (.ifCond .eq 10, 3) := by decide +kernel
theorem dX10_enter_50 : decode cX10_enter 50 = .ok (.bipush 7, 2) := by decide +kernel
theorem dX10_enter_52 : decode cX10_enter 52 = .ok (.iload_n 3, 1) := by decide +kernel
theorem dX10_enter_53 : decode cX10_enter 53 = .ok (.imul, 1) := by decide +kernel
theorem dX10_enter_54 : decode cX10_enter 54 = .ok (.goto 9, 3) := by decide +kernel
theorem dX10_enter_57 : decode cX10_enter 57 = .ok (.aload_n 0, 1) := by decide +kernel
theorem dX10_enter_58 : decode cX10_enter 58 = .ok (.iload 4, 2) := by decide +kernel
theorem dX10_enter_60 : decode cX10_enter 60 = .ok (.invokevirtual 246, 3) := by decide +kernel
theorem dX10_enter_63 : decode cX10_enter 63 = .ok (.iastore, 1) := by decide +kernel
theorem dX10_enter_64 : decode cX10_enter 64 = .ok (.aload_n 0, 1) := by decide +kernel
theorem dX10_enter_65 : decode cX10_enter 65 = .ok (.getfield 88, 3) := by decide +kernel
theorem dX10_enter_68 : decode cX10_enter 68 = .ok (.iload_n 3, 1) := by decide +kernel
theorem dX10_enter_69 : decode cX10_enter 69 = .ok (.baload, 1) := by decide +kernel
theorem dX10_enter_70 : decode cX10_enter 70 = .ok (.ifCond .ne 4, 3) := by decide +kernel
theorem dX10_enter_73 : decode cX10_enter 73 = .ok (.return_, 1) := by decide +kernel
theorem dX10_enter_74 : decode cX10_enter 74 = .ok (.aload_n 0, 1) := by decide +kernel
theorem dX10_enter_75 : decode cX10_enter 75 = .ok (.getfield 66, 3) := by decide +kernel
theorem dX10_enter_78 : decode cX10_enter 78 = .ok (.aload_n 0, 1) := by decide +kernel
theorem dX10_enter_79 : decode cX10_enter 79 = .ok (.iload_n 2, 1) := by decide +kernel
theorem dX10_enter_80 : decode cX10_enter 80 = .ok (.invokevirtual 219, 3) := by decide +kernel
theorem dX10_enter_83 : decode cX10_enter 83 = .ok (.bipush 7, 2) := by decide +kernel
theorem dX10_enter_85 : decode cX10_enter 85 = .ok (.iload_n 3, 1) := by decide +kernel
theorem dX10_enter_86 : decode cX10_enter 86 = .ok (.imul, 1) := by decide +kernel
theorem dX10_enter_87 : decode cX10_enter 87 = .ok (.aload_n 0, 1) := by decide +kernel
theorem dX10_enter_88 : decode cX10_enter 88 = .ok (.iload 4, 2) := by decide +kernel
theorem dX10_enter_90 : decode cX10_enter 90 = .ok (.invokevirtual 249, 3) := by decide +kernel
theorem dX10_enter_93 : decode cX10_enter 93 = .ok (.invokestatic 252, 3) := by decide +kernel
theorem dX10_enter_96 : decode cX10_enter 96 = .ok (.iconst 1, 1) := by decide +kernel
theorem dX10_enter_97 : decode cX10_enter 97 = .ok (.istore 5, 2) := by decide +kernel
theorem dX10_enter_99 : decode cX10_enter 99 = .ok (.iload 5, 2) := by decide +kernel
theorem dX10_enter_101 : decode cX10_enter 101 = .ok (.bipush 7, 2) := by decide +kernel
theorem dX10_enter_103 : decode cX10_enter 103 = .ok (.if_icmp .ge 30, 3) := by decide +kernel
theorem dX10_enter_106 : decode cX10_enter 106 = .ok (.aload_n 0, 1) := by decide +kernel
theorem dX10_enter_107 : decode cX10_enter 107 = .ok (.getfield 66, 3) := by decide +kernel
theorem dX10_enter_110 : decode cX10_enter 110 = .ok (.aload_n 0, 1) := by decide +kernel
theorem dX10_enter_111 : decode cX10_enter 111 = .ok (.iload_n 2, 1) := by decide +kernel
theorem dX10_enter_112 : decode cX10_enter 112 = .ok (.invokevirtual 219, 3) := by decide +kernel
theorem dX10_enter_115 : decode cX10_enter 115 = .ok (.bipush 7, 2) := by decide +kernel
theorem dX10_enter_117 : decode cX10_enter 117 = .ok (.iload_n 3, 1) := by decide +kernel
theorem dX10_enter_118 : decode cX10_enter 118 = .ok (.imul, 1) := by decide +kernel
theorem dX10_enter_119 : decode cX10_enter 119 = .ok (.iload 5, 2) := by decide +kernel
theorem dX10_enter_121 : decode cX10_enter 121 = .ok (.iadd, 1) := by decide +kernel
theorem dX10_enter_122 : decode cX10_enter 122 = .ok (.bipush 31, 2) := by decide +kernel
theorem dX10_enter_124 : decode cX10_enter 124 = .ok (.invokestatic 252, 3) := by decide +kernel
theorem dX10_enter_127 : decode cX10_enter 127 = .ok (.iinc 5 1, 3) := by decide +kernel
theorem dX10_enter_130 : decode cX10_enter 130 = .ok (.goto (-31), 3) := by decide +kernel
theorem dX10_enter_133 : decode cX10_enter 133 = .ok (.aload_n 0, 1) := by decide +kernel
theorem dX10_enter_134 : decode cX10_enter 134 = .ok (.getfield 70, 3) := by decide +kernel
theorem dX10_enter_137 : decode cX10_enter 137 = .ok (.aload_n 0, 1) := by decide +kernel
theorem dX10_enter_138 : decode cX10_enter 138 = .ok (.iload 4, 2) := by decide +kernel
theorem dX10_enter_140 : decode cX10_enter 140 = .ok (.invokevirtual 219, 3) := by decide +kernel
theorem dX10_enter_143 : decode cX10_enter 143 = .ok (.aload_n 0, 1) := by decide +kernel
theorem dX10_enter_144 : decode cX10_enter 144 = .ok (.getfield 91, 3) := by decide +kernel
theorem dX10_enter_147 : decode cX10_enter 147 = .ok (.iconst 5, 1) := by decide +kernel
theorem dX10_enter_148 : decode cX10_enter 148 = .ok (.iload_n 3, 1) := by decide +kernel
theorem dX10_enter_149 : decode cX10_enter 149 = .ok (.imul, 1) := by decide +kernel
theorem dX10_enter_150 : decode cX10_enter 150 = .ok (.invokestatic 222, 3) := by decide +kernel
theorem dX10_enter_153 : decode cX10_enter 153 = .ok (.aload_n 0, 1) := by decide +kernel
theorem dX10_enter_154 : decode cX10_enter 154 = .ok (.getfield 73, 3) := by decide +kernel
theorem dX10_enter_157 : decode cX10_enter 157 = .ok (.aload_n 0, 1) := by decide +kernel
theorem dX10_enter_158 : decode cX10_enter 158 = .ok (.iload 4, 2) := by decide +kernel
theorem dX10_enter_160 : decode cX10_enter 160 = .ok (.invokevirtual 219, 3) := by decide +kernel
theorem dX10_enter_163 : decode cX10_enter 163 = .ok (.aload_n 0, 1) := by decide +kernel
theorem dX10_enter_164 : decode cX10_enter 164 = .ok (.getfield 94, 3) := by decide +kernel
theorem dX10_enter_167 : decode cX10_enter 167 = .ok (.iconst 5, 1) := by decide +kernel
theorem dX10_enter_168 : decode cX10_enter 168 = .ok (.iload_n 3, 1) := by decide +kernel
theorem dX10_enter_169 : decode cX10_enter 169 = .ok (.imul, 1) := by decide +kernel
theorem dX10_enter_170 : decode cX10_enter 170 = .ok (.invokestatic 222, 3) := by decide +kernel
theorem dX10_enter_173 : decode cX10_enter 173 = .ok (.return_, 1) := by decide +kernel
set_option maxRecDepth 20000 in
set_option maxHeartbeats 4000000 in
theorem w_X10_enter {c : rX} {d : Nat} {S : rS} {K : Option Value → rS → Prop} (ho : rOK c) (p0 : Int32) (p1 : Int32) (h : ∃ j1 : Nat, am_ix p0 j1 320 ∧ (∃ j3 : Nat, am_ix p0 j3 320 ∧ (rM c d eX10_placeOf (.ref c.2.2.1 :: [.int (S.1 5 j3)]) S (fun v S5 => ∃ z6 : Int32, v = some (.int z6) ∧ ((¬ z6 = (-1) → (rG c eX10_enter (d + 1) (rQ c K) 35 [some (.ref c.2.2.1), none, some (.int p1), some (.int (S.1 8 j1)), some (.int (S.1 5 j3)), none] [.int 0, .int (S.1 8 j1), .ref (c.2.2.1 + (24 + 1))] S5)) ∧ (z6 = (-1) → (rG c eX10_enter (d + 1) (rQ c K) 35 [some (.ref c.2.2.1), none, some (.int p1), some (.int (S.1 8 j1)), some (.int (S.1 5 j3)), none] [.int 1, .int (S.1 8 j1), .ref (c.2.2.1 + (24 + 1))] S5))))))) : rM c (d + 1) eX10_enter [.ref c.2.2.1, .int p0, .int p1] S K := by
  refine rM.of (by decide) (Nat.le_of_ble_eq_true rfl) ?_
  show rG c eX10_enter (d + 1) (rQ c K) 0 [some (.ref c.2.2.1), some (.int p0), some (.int p1), none, none, none] [] S
  refine ag_aload_n dX10_enter_0 rfl (Or.inr ⟨_, rfl⟩) ?_
  refine rr_get (v := .ref (c.2.2.1 + (5 + 1))) ho dX10_enter_1 fw_10_29 rfl ?_
  refine ag_iload_n dX10_enter_4 rfl ?_
  obtain ⟨j1, hj2, h⟩ := h
  refine rr_il (v := S.1 8 j1) ho dX10_enter_5 (k := 5) (f := 8) rfl hj2 rfl ?_
  refine ag_istore_n (lv2 := [some (.ref c.2.2.1), some (.int p0), some (.int p1), some (.int (S.1 8 j1)), none, none]) dX10_enter_6 (Nat.le_of_ble_eq_true rfl) rfl ?_
  refine ag_aload_n dX10_enter_7 rfl (Or.inr ⟨_, rfl⟩) ?_
  refine rr_get (v := .ref (c.2.2.1 + (2 + 1))) ho dX10_enter_8 fw_10_20 rfl ?_
  refine ag_iload_n dX10_enter_11 rfl ?_
  obtain ⟨j3, hj4, h⟩ := h
  refine rr_il (v := S.1 5 j3) ho dX10_enter_12 (k := 2) (f := 5) rfl hj4 rfl ?_
  refine ag_istore (lv2 := [some (.ref c.2.2.1), some (.int p0), some (.int p1), some (.int (S.1 8 j1)), some (.int (S.1 5 j3)), none]) dX10_enter_13 (Nat.le_of_ble_eq_true rfl) rfl ?_
  refine ag_aload_n dX10_enter_15 rfl (Or.inr ⟨_, rfl⟩) ?_
  refine rr_get (v := .ref (c.2.2.1 + (24 + 1))) ho dX10_enter_16 fw_10_88 rfl ?_
  refine ag_iload_n dX10_enter_19 rfl ?_
  refine ag_aload_n dX10_enter_20 rfl (Or.inr ⟨_, rfl⟩) ?_
  refine ag_iload dX10_enter_21 rfl ?_
  refine rr_call (as := [.int (S.1 5 j3)]) (rest := [.int (S.1 8 j1), .ref (c.2.2.1 + (24 + 1))]) ho dX10_enter_23 me_X10_placeOf mi_X10_placeOf lk_10_246 rfl rfl (Nat.le_of_ble_eq_true rfl) ?_
  refine rM.mono h ?_
  rintro v S5 ⟨z6, rfl, h⟩
  show rG _ _ _ _ _ _ [.int z6, .int (S.1 8 j1), .ref (c.2.2.1 + (24 + 1))] _
  refine ag_iconst (v := (-1)) dX10_enter_26 rfl ?_
  refine ag_icmp_ne (tgt := 34) dX10_enter_27 rfl (fun hc7 => ?_) (fun hc7 => ?_)
  · have h := h.1 hc7
    refine ag_iconst (v := 0) dX10_enter_34 rfl ?_
    refine ag_drop 1 ?_
    exact h
  · have h := h.2 hc7
    refine ag_iconst (v := 1) dX10_enter_30 rfl ?_
    refine ag_goto (tgt := 35) dX10_enter_31 rfl ?_
    refine ag_drop 1 ?_
    exact h
set_option maxRecDepth 20000 in
set_option maxHeartbeats 4000000 in
theorem w_X10_enter_35 {c : rX} {d : Nat} {S : rS} {K : Option Value → rS → Prop} (ho : rOK c) (v2 : Int32) (v3 : Int32) (v4 : Int32) (s0 : Int32) (s1 : Int32) (h : ∃ j1 : Nat, am_ix s1 j1 8 ∧ (rB s0 ∧ (∃ j4 : Nat, am_ix v3 j4 8 ∧ (((((rsi S 33 j1 s0)).1 33 j4) = 0 → (rM c d eX10_placeOf (.ref c.2.2.1 :: [.int v4]) (rsi S 33 j1 s0) (fun v S7 => ∃ z8 : Int32, v = some (.int z8) ∧ (rG c eX10_enter (d + 1) (rQ c K) 63 [some (.ref c.2.2.1), none, some (.int v2), some (.int v3), some (.int v4), none] [.int z8, .int v3, .ref (c.2.2.1 + (23 + 1))] S7)))) ∧ (¬ (((rsi S 33 j1 s0)).1 33 j4) = 0 → (rG c eX10_enter (d + 1) (rQ c K) 63 [some (.ref c.2.2.1), none, some (.int v2), some (.int v3), some (.int v4), none] [.int (7 * v3), .int v3, .ref (c.2.2.1 + (23 + 1))] (rsi S 33 j1 s0))))))) : rG c eX10_enter (d + 1) (rQ c K) 35 [some (.ref c.2.2.1), none, some (.int v2), some (.int v3), some (.int v4), none] [.int s0, .int s1, .ref (c.2.2.1 + (24 + 1))] S := by
  obtain ⟨j1, hj2, h⟩ := h
  obtain ⟨hb3, h⟩ := h
  refine rr_zs (S2 := (rsi S 33 j1 s0)) ho dX10_enter_35 (k := 24) (f := 33) rfl hj2 hb3 rfl ?_
  refine ag_aload_n dX10_enter_36 rfl (Or.inr ⟨_, rfl⟩) ?_
  refine rr_get (v := .ref (c.2.2.1 + (23 + 1))) ho dX10_enter_37 fw_10_85 rfl ?_
  refine ag_iload_n dX10_enter_40 rfl ?_
  refine ag_aload_n dX10_enter_41 rfl (Or.inr ⟨_, rfl⟩) ?_
  refine rr_get (v := .ref (c.2.2.1 + (24 + 1))) ho dX10_enter_42 fw_10_88 rfl ?_
  refine ag_iload_n dX10_enter_45 rfl ?_
  obtain ⟨j4, hj5, h⟩ := h
  refine rr_zl (v := ((rsi S 33 j1 s0)).1 33 j4) ho dX10_enter_46 (k := 24) (f := 33) rfl hj5 rfl ?_
  refine ag_if_eq (tgt := 57) dX10_enter_47 rfl (fun hc6 => ?_) (fun hc6 => ?_)
  · have h := h.1 hc6
    refine ag_aload_n dX10_enter_57 rfl (Or.inr ⟨_, rfl⟩) ?_
    refine ag_iload dX10_enter_58 rfl ?_
    refine rr_call (as := [.int v4]) (rest := [.int v3, .ref (c.2.2.1 + (23 + 1))]) ho dX10_enter_60 me_X10_placeOf mi_X10_placeOf lk_10_246 rfl rfl (Nat.le_of_ble_eq_true rfl) ?_
    refine rM.mono h ?_
    rintro v S7 ⟨z8, rfl, h⟩
    show rG _ _ _ _ _ _ [.int z8, .int v3, .ref (c.2.2.1 + (23 + 1))] _
    exact h
  · have h := h.2 hc6
    refine ag_bipush (v := 7) dX10_enter_50 (by decide) ?_
    refine ag_iload_n dX10_enter_52 rfl ?_
    refine ag_imul dX10_enter_53 rfl ?_
    refine ag_goto (tgt := 63) dX10_enter_54 rfl ?_
    exact h
set_option maxRecDepth 20000 in
set_option maxHeartbeats 4000000 in
theorem w_X10_enter_63 {c : rX} {d : Nat} {S : rS} {K : Option Value → rS → Prop} (ho : rOK c) (v2 : Int32) (v3 : Int32) (v4 : Int32) (s0 : Int32) (s1 : Int32) (h : ∃ j1 : Nat, am_ix s1 j1 8 ∧ (∃ j3 : Nat, am_ix v3 j3 8 ∧ ((¬ (S.1 33 j3) = 0 → (rM c d eX10_five (.ref c.2.2.1 :: [.int v2]) (rsi S 32 j1 s0) (fun v S6 => ∃ z7 : Int32, v = some (.int z7) ∧ (rM c d eX10_typeOf (.ref c.2.2.1 :: [.int v4]) S6 (fun v S8 => ∃ z9 : Int32, v = some (.int z9) ∧ (rM c d eX10_say [.ref (c.2.2.1 + (17 + 1)), .int z7, .int (7 * v3), .int z9] S8 (fun v S10 => v = none ∧ (rG c eX10_enter (d + 1) (rQ c K) 99 [some (.ref c.2.2.1), none, some (.int v2), some (.int v3), some (.int v4), some (.int 1)] [] S10)))))))) ∧ ((S.1 33 j3) = 0 → (K none (rsi S 32 j1 s0)))))) : rG c eX10_enter (d + 1) (rQ c K) 63 [some (.ref c.2.2.1), none, some (.int v2), some (.int v3), some (.int v4), none] [.int s0, .int s1, .ref (c.2.2.1 + (23 + 1))] S := by
  obtain ⟨j1, hj2, h⟩ := h
  refine rr_is (S2 := (rsi S 32 j1 s0)) ho dX10_enter_63 (k := 23) (f := 32) rfl hj2 rfl ?_
  refine ag_aload_n dX10_enter_64 rfl (Or.inr ⟨_, rfl⟩) ?_
  refine rr_get (v := .ref (c.2.2.1 + (24 + 1))) ho dX10_enter_65 fw_10_88 rfl ?_
  refine ag_iload_n dX10_enter_68 rfl ?_
  obtain ⟨j3, hj4, h⟩ := h
  refine rr_zl (v := S.1 33 j3) ho dX10_enter_69 (k := 24) (f := 33) rfl hj4 rfl ?_
  refine ag_if_ne (tgt := 74) dX10_enter_70 rfl (fun hc5 => ?_) (fun hc5 => ?_)
  · have h := h.1 hc5
    refine ag_aload_n dX10_enter_74 rfl (Or.inr ⟨_, rfl⟩) ?_
    refine rr_get (v := .ref (c.2.2.1 + (17 + 1))) ho dX10_enter_75 fw_10_66 rfl ?_
    refine ag_aload_n dX10_enter_78 rfl (Or.inr ⟨_, rfl⟩) ?_
    refine ag_iload_n dX10_enter_79 rfl ?_
    refine rr_call (as := [.int v2]) (rest := [.ref (c.2.2.1 + (17 + 1))]) ho dX10_enter_80 me_X10_five mi_X10_five lk_10_219 rfl rfl (Nat.le_of_ble_eq_true rfl) ?_
    refine rM.mono h ?_
    rintro v S6 ⟨z7, rfl, h⟩
    show rG _ _ _ _ _ _ [.int z7, .ref (c.2.2.1 + (17 + 1))] _
    refine ag_bipush (v := 7) dX10_enter_83 (by decide) ?_
    refine ag_iload_n dX10_enter_85 rfl ?_
    refine ag_imul dX10_enter_86 rfl ?_
    refine ag_aload_n dX10_enter_87 rfl (Or.inr ⟨_, rfl⟩) ?_
    refine ag_iload dX10_enter_88 rfl ?_
    refine rr_call (as := [.int v4]) (rest := [.int (7 * v3), .int z7, .ref (c.2.2.1 + (17 + 1))]) ho dX10_enter_90 me_X10_typeOf mi_X10_typeOf lk_10_249 rfl rfl (Nat.le_of_ble_eq_true rfl) ?_
    refine rM.mono h ?_
    rintro v S8 ⟨z9, rfl, h⟩
    show rG _ _ _ _ _ _ [.int z9, .int (7 * v3), .int z7, .ref (c.2.2.1 + (17 + 1))] _
    refine rr_calls (as := [.ref (c.2.2.1 + (17 + 1)), .int z7, .int (7 * v3), .int z9]) (rest := []) dX10_enter_93 me_X10_say ms_X10_say lk_10_252 rfl rfl (Nat.le_of_ble_eq_true rfl) ?_
    refine rM.mono h ?_
    rintro v S10 ⟨rfl, h⟩
    show rG _ _ _ _ _ _ [] _
    refine ag_iconst (v := 1) dX10_enter_96 rfl ?_
    refine ag_istore (lv2 := [some (.ref c.2.2.1), none, some (.int v2), some (.int v3), some (.int v4), some (.int 1)]) dX10_enter_97 (Nat.le_of_ble_eq_true rfl) rfl ?_
    exact h
  · have h := h.2 hc5
    exact ag_ret (v := none) dX10_enter_73 rfl ⟨_, rfl, _, rfl, h⟩ rfl
set_option maxRecDepth 20000 in
set_option maxHeartbeats 4000000 in
theorem w_X10_enter_99 {c : rX} {d : Nat} {S : rS} {K : Option Value → rS → Prop} (ho : rOK c) (v2 : Int32) (v3 : Int32) (v4 : Int32) (v5 : Int32) (h : (7 ≤ v5 → (rM c d eX10_five (.ref c.2.2.1 :: [.int v4]) S (fun v S2 => ∃ z3 : Int32, v = some (.int z3) ∧ (rM c d eX10_copy [.ref (c.2.2.1 + (18 + 1)), .int z3, .ref (c.2.2.1 + (25 + 1)), .int (5 * v3)] S2 (fun v S4 => v = none ∧ (rM c d eX10_five (.ref c.2.2.1 :: [.int v4]) S4 (fun v S6 => ∃ z7 : Int32, v = some (.int z7) ∧ (rM c d eX10_copy [.ref (c.2.2.1 + (19 + 1)), .int z7, .ref (c.2.2.1 + (26 + 1)), .int (5 * v3)] S6 (fun v S8 => v = none ∧ (K none S8)))))))))) ∧ (¬ 7 ≤ v5 → (rM c d eX10_five (.ref c.2.2.1 :: [.int v2]) S (fun v S10 => ∃ z11 : Int32, v = some (.int z11) ∧ (rM c d eX10_say [.ref (c.2.2.1 + (17 + 1)), .int z11, .int ((7 * v3) + v5), .int 31] S10 (fun v S12 => v = none ∧ (rG c eX10_enter (d + 1) (rQ c K) 99 [some (.ref c.2.2.1), none, some (.int v2), some (.int v3), some (.int v4), some (.int (v5 + 1))] [] S12))))))) : rG c eX10_enter (d + 1) (rQ c K) 99 [some (.ref c.2.2.1), none, some (.int v2), some (.int v3), some (.int v4), some (.int v5)] [] S := by
  refine ag_iload dX10_enter_99 rfl ?_
  refine ag_bipush (v := 7) dX10_enter_101 (by decide) ?_
  refine ag_icmp_ge (tgt := 133) dX10_enter_103 rfl (fun hc1 => ?_) (fun hc1 => ?_)
  · have h := h.1 hc1
    refine ag_aload_n dX10_enter_133 rfl (Or.inr ⟨_, rfl⟩) ?_
    refine rr_get (v := .ref (c.2.2.1 + (18 + 1))) ho dX10_enter_134 fw_10_70 rfl ?_
    refine ag_aload_n dX10_enter_137 rfl (Or.inr ⟨_, rfl⟩) ?_
    refine ag_iload dX10_enter_138 rfl ?_
    refine rr_call (as := [.int v4]) (rest := [.ref (c.2.2.1 + (18 + 1))]) ho dX10_enter_140 me_X10_five mi_X10_five lk_10_219 rfl rfl (Nat.le_of_ble_eq_true rfl) ?_
    refine rM.mono h ?_
    rintro v S2 ⟨z3, rfl, h⟩
    show rG _ _ _ _ _ _ [.int z3, .ref (c.2.2.1 + (18 + 1))] _
    refine ag_aload_n dX10_enter_143 rfl (Or.inr ⟨_, rfl⟩) ?_
    refine rr_get (v := .ref (c.2.2.1 + (25 + 1))) ho dX10_enter_144 fw_10_91 rfl ?_
    refine ag_iconst (v := 5) dX10_enter_147 rfl ?_
    refine ag_iload_n dX10_enter_148 rfl ?_
    refine ag_imul dX10_enter_149 rfl ?_
    refine rr_calls (as := [.ref (c.2.2.1 + (18 + 1)), .int z3, .ref (c.2.2.1 + (25 + 1)), .int (5 * v3)]) (rest := []) dX10_enter_150 me_X10_copy ms_X10_copy lk_10_222 rfl rfl (Nat.le_of_ble_eq_true rfl) ?_
    refine rM.mono h ?_
    rintro v S4 ⟨rfl, h⟩
    show rG _ _ _ _ _ _ [] _
    refine ag_aload_n dX10_enter_153 rfl (Or.inr ⟨_, rfl⟩) ?_
    refine rr_get (v := .ref (c.2.2.1 + (19 + 1))) ho dX10_enter_154 fw_10_73 rfl ?_
    refine ag_aload_n dX10_enter_157 rfl (Or.inr ⟨_, rfl⟩) ?_
    refine ag_iload dX10_enter_158 rfl ?_
    refine rr_call (as := [.int v4]) (rest := [.ref (c.2.2.1 + (19 + 1))]) ho dX10_enter_160 me_X10_five mi_X10_five lk_10_219 rfl rfl (Nat.le_of_ble_eq_true rfl) ?_
    refine rM.mono h ?_
    rintro v S6 ⟨z7, rfl, h⟩
    show rG _ _ _ _ _ _ [.int z7, .ref (c.2.2.1 + (19 + 1))] _
    refine ag_aload_n dX10_enter_163 rfl (Or.inr ⟨_, rfl⟩) ?_
    refine rr_get (v := .ref (c.2.2.1 + (26 + 1))) ho dX10_enter_164 fw_10_94 rfl ?_
    refine ag_iconst (v := 5) dX10_enter_167 rfl ?_
    refine ag_iload_n dX10_enter_168 rfl ?_
    refine ag_imul dX10_enter_169 rfl ?_
    refine rr_calls (as := [.ref (c.2.2.1 + (19 + 1)), .int z7, .ref (c.2.2.1 + (26 + 1)), .int (5 * v3)]) (rest := []) dX10_enter_170 me_X10_copy ms_X10_copy lk_10_222 rfl rfl (Nat.le_of_ble_eq_true rfl) ?_
    refine rM.mono h ?_
    rintro v S8 ⟨rfl, h⟩
    show rG _ _ _ _ _ _ [] _
    exact ag_ret (v := none) dX10_enter_173 rfl ⟨_, rfl, _, rfl, h⟩ rfl
  · have h := h.2 hc1
    refine ag_aload_n dX10_enter_106 rfl (Or.inr ⟨_, rfl⟩) ?_
    refine rr_get (v := .ref (c.2.2.1 + (17 + 1))) ho dX10_enter_107 fw_10_66 rfl ?_
    refine ag_aload_n dX10_enter_110 rfl (Or.inr ⟨_, rfl⟩) ?_
    refine ag_iload_n dX10_enter_111 rfl ?_
    refine rr_call (as := [.int v2]) (rest := [.ref (c.2.2.1 + (17 + 1))]) ho dX10_enter_112 me_X10_five mi_X10_five lk_10_219 rfl rfl (Nat.le_of_ble_eq_true rfl) ?_
    refine rM.mono h ?_
    rintro v S10 ⟨z11, rfl, h⟩
    show rG _ _ _ _ _ _ [.int z11, .ref (c.2.2.1 + (17 + 1))] _
    refine ag_bipush (v := 7) dX10_enter_115 (by decide) ?_
    refine ag_iload_n dX10_enter_117 rfl ?_
    refine ag_imul dX10_enter_118 rfl ?_
    refine ag_iload dX10_enter_119 rfl ?_
    refine ag_iadd dX10_enter_121 rfl ?_
    refine ag_bipush (v := 31) dX10_enter_122 (by decide) ?_
    refine rr_calls (as := [.ref (c.2.2.1 + (17 + 1)), .int z11, .int ((7 * v3) + v5), .int 31]) (rest := []) dX10_enter_124 me_X10_say ms_X10_say lk_10_252 rfl rfl (Nat.le_of_ble_eq_true rfl) ?_
    refine rM.mono h ?_
    rintro v S12 ⟨rfl, h⟩
    show rG _ _ _ _ _ _ [] _
    refine ag_iinc (v2 := (v5 + 1)) (lv2 := [some (.ref c.2.2.1), none, some (.int v2), some (.int v3), some (.int v4), some (.int (v5 + 1))]) dX10_enter_127 rfl rfl rfl ?_
    refine ag_goto (tgt := 99) dX10_enter_130 rfl ?_
    exact h
theorem dX10_refuse_0 : decode cX10_refuse 0 = .ok (.aload_n 0, 1) := by decide +kernel
theorem dX10_refuse_1 : decode cX10_refuse 1 = .ok (.iconst 1, 1) := by decide +kernel
theorem dX10_refuse_2 : decode cX10_refuse 2 = .ok (.putfield 229, 3) := by decide +kernel
theorem dX10_refuse_5 : decode cX10_refuse 5 = .ok (.aload_n 0, 1) := by decide +kernel
theorem dX10_refuse_6 : decode cX10_refuse 6 = .ok (.aload_n 0, 1) := by decide +kernel
theorem dX10_refuse_7 : decode cX10_refuse 7 = .ok (.getfield 32, 3) := by decide +kernel
theorem dX10_refuse_10 : decode cX10_refuse 10 = .ok (.iload_n 1, 1) := by decide +kernel
theorem dX10_refuse_11 : decode cX10_refuse 11 = .ok (.iaload, 1) := by decide +kernel
theorem dX10_refuse_12 : decode cX10_refuse 12 = .ok (.putfield 9, 3) := by decide +kernel
theorem dX10_refuse_15 : decode cX10_refuse 15 = .ok (.return_, 1) := by decide +kernel
set_option maxRecDepth 20000 in
set_option maxHeartbeats 4000000 in
theorem w_X10_refuse {c : rX} {d : Nat} {S : rS} {K : Option Value → rS → Prop} (ho : rOK c) (p0 : Int32) (h : ∃ j1 : Nat, am_ix p0 j1 320 ∧ (K none (rsi (rsi S 38 0 1) 1 0 (S.1 9 j1)))) : rM c d eX10_refuse [.ref c.2.2.1, .int p0] S K := by
  refine rM.of (by decide) (Nat.le_of_ble_eq_true rfl) ?_
  show rG c eX10_refuse d (rQ c K) 0 [some (.ref c.2.2.1), some (.int p0)] [] S
  refine ag_aload_n dX10_refuse_0 rfl (Or.inr ⟨_, rfl⟩) ?_
  refine ag_iconst (v := 1) dX10_refuse_1 rfl ?_
  refine rr_put (S2 := (rsi S 38 0 1)) ho dX10_refuse_2 pw_10_229 rfl (rB_ok (Or.inr rfl)) rfl ?_
  refine ag_aload_n dX10_refuse_5 rfl (Or.inr ⟨_, rfl⟩) ?_
  refine ag_aload_n dX10_refuse_6 rfl (Or.inr ⟨_, rfl⟩) ?_
  refine rr_get (v := .ref (c.2.2.1 + (6 + 1))) ho dX10_refuse_7 fw_10_32 rfl ?_
  refine ag_iload_n dX10_refuse_10 rfl ?_
  obtain ⟨j1, hj2, h⟩ := h
  refine rr_il (v := S.1 9 j1) ho dX10_refuse_11 (k := 6) (f := 9) rfl hj2 rfl ?_
  refine rr_put (S2 := (rsi (rsi S 38 0 1) 1 0 (S.1 9 j1))) ho dX10_refuse_12 pw_10_9 rfl (fun _ => ⟨rfl, rfl⟩) rfl ?_
  exact ag_ret (v := none) dX10_refuse_15 rfl ⟨_, rfl, _, rfl, h⟩ rfl
