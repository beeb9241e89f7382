/-! Two joins of the reference, with the other array on the stack. -/
set_option maxRecDepth 20000 in
set_option maxHeartbeats 4000000 in
theorem w_X10_nextPart_138n {c : rX} {d : Nat} {S : rS} {K : Option Value → rS → Prop} (ho : rOK c) (v1 : Int32) (v2 : Int32) (v3 : Int32) (v4 : Int32) (h : rM c d eX10_five (.ref c.2.2.1 :: [.int v4]) S (fun v S1 => ∃ z2 : Int32, v = some (.int z2) ∧ (rM c d eX10_five (.ref c.2.2.1 :: [.int v3]) S1 (fun v S3 => ∃ z4 : Int32, v = some (.int z4) ∧ (rM c d eX10_copy [.ref (c.2.2.1 + (19 + 1)), .int z2, .ref (c.2.2.1 + (17 + 1)), .int z4] S3 (fun v S5 => v = none ∧ (rG c eX10_nextPart (d + 1) (rQ c K) 262 [some (.ref c.2.2.1), some (.int v1), some (.int v2), some (.int v3), none] [] S5))))))) : rG c eX10_nextPart (d + 1) (rQ c K) 138 [some (.ref c.2.2.1), some (.int v1), some (.int v2), some (.int v3), some (.int v4)] [.ref (c.2.2.1 + (19 + 1))] S := by
  refine ag_aload_n dX10_nextPart_138 rfl (Or.inr ⟨_, rfl⟩) ?_
  refine ag_iload dX10_nextPart_139 rfl ?_
  refine rr_call (as := [.int v4]) (rest := [.ref (c.2.2.1 + (19 + 1))]) ho dX10_nextPart_141 me_X10_five mi_X10_five lk_10_219 rfl rfl (Nat.le_of_ble_eq_true rfl) ?_
  refine rM.mono h ?_
  rintro v S1 ⟨z2, rfl, h⟩
  show rG _ _ _ _ _ _ [.int z2, .ref (c.2.2.1 + (19 + 1))] _
  refine ag_aload_n dX10_nextPart_144 rfl (Or.inr ⟨_, rfl⟩) ?_
  refine rr_get (v := .ref (c.2.2.1 + (17 + 1))) ho dX10_nextPart_145 fw_10_66 rfl ?_
  refine ag_aload_n dX10_nextPart_148 rfl (Or.inr ⟨_, rfl⟩) ?_
  refine ag_iload_n dX10_nextPart_149 rfl ?_
  refine rr_call (as := [.int v3]) (rest := [.ref (c.2.2.1 + (17 + 1)), .int z2, .ref (c.2.2.1 + (19 + 1))]) ho dX10_nextPart_150 me_X10_five mi_X10_five lk_10_219 rfl rfl (Nat.le_of_ble_eq_true rfl) ?_
  refine rM.mono h ?_
  rintro v S3 ⟨z4, rfl, h⟩
  show rG _ _ _ _ _ _ [.int z4, .ref (c.2.2.1 + (17 + 1)), .int z2, .ref (c.2.2.1 + (19 + 1))] _
  refine rr_calls (as := [.ref (c.2.2.1 + (19 + 1)), .int z2, .ref (c.2.2.1 + (17 + 1)), .int z4]) (rest := []) dX10_nextPart_153 me_X10_copy ms_X10_copy lk_10_222 rfl rfl (Nat.le_of_ble_eq_true rfl) ?_
  refine rM.mono h ?_
  rintro v S5 ⟨rfl, h⟩
  show rG _ _ _ _ _ _ [] _
  refine ag_goto (tgt := 262) dX10_nextPart_156 rfl ?_
  refine ag_drop 4 ?_
  exact h
set_option maxRecDepth 20000 in
set_option maxHeartbeats 4000000 in
theorem w_X10_view_70n {c : rX} {d : Nat} {S : rS} {K : Option Value → rS → Prop} (ho : rOK c) (v1 : Int32) (v2 : Int32) (v3 : Int32) (h : rM c d eX10_isImpossible [.ref (c.2.2.1 + (41 + 1)), .int 0] S (fun v S1 => ∃ z2 : Int32, v = some (.int z2) ∧ ((z2 = 0 → ((v1 = 0 → (rM c d eX10_said [.ref (c.2.2.1 + (41 + 1)), .int 0, .int ((7 * v2) + v3)] S1 (fun v S5 => ∃ z6 : Int32, v = some (.int z6) ∧ (K (some (.int z6)) S5)))) ∧ (¬ v1 = 0 → (rM c d eX10_said [.ref (c.2.2.1 + (40 + 1)), .int 0, .int ((7 * v2) + v3)] S1 (fun v S7 => ∃ z8 : Int32, v = some (.int z8) ∧ (K (some (.int z8)) S7)))))) ∧ (¬ z2 = 0 → (K (some (.int (-1))) S1))))) : rG c eX10_view (d + 1) (rQ c K) 70 [some (.ref c.2.2.1), some (.int v1), some (.int v2), some (.int v3)] [.ref (c.2.2.1 + (41 + 1))] S := by
  refine ag_iconst (v := 0) dX10_view_70 rfl ?_
  refine rr_calls (as := [.ref (c.2.2.1 + (41 + 1)), .int 0]) (rest := []) dX10_view_71 me_X10_isImpossible ms_X10_isImpossible lk_10_211 rfl rfl (Nat.le_of_ble_eq_true rfl) ?_
  refine rM.mono h ?_
  rintro v S1 ⟨z2, rfl, h⟩
  show rG _ _ _ _ _ _ [.int z2] _
  refine ag_if_eq (tgt := 79) dX10_view_74 rfl (fun hc3 => ?_) (fun hc3 => ?_)
  · have h := h.1 hc3
    refine ag_iload_n dX10_view_79 rfl ?_
    refine ag_if_eq (tgt := 90) dX10_view_80 rfl (fun hc4 => ?_) (fun hc4 => ?_)
    · have h := h.1 hc4
      refine ag_aload_n dX10_view_90 rfl (Or.inr ⟨_, rfl⟩) ?_
      refine rr_get (v := .ref (c.2.2.1 + (41 + 1))) ho dX10_view_91 fw_10_145 rfl ?_
      refine ag_iconst (v := 0) dX10_view_94 rfl ?_
      refine ag_bipush (v := 7) dX10_view_95 (by decide) ?_
      refine ag_iload_n dX10_view_97 rfl ?_
      refine ag_imul dX10_view_98 rfl ?_
      refine ag_iload_n dX10_view_99 rfl ?_
      refine ag_iadd dX10_view_100 rfl ?_
      refine rr_calls (as := [.ref (c.2.2.1 + (41 + 1)), .int 0, .int ((7 * v2) + v3)]) (rest := []) dX10_view_101 me_X10_said ms_X10_said lk_10_298 rfl rfl (Nat.le_of_ble_eq_true rfl) ?_
      refine rM.mono h ?_
      rintro v S5 ⟨z6, rfl, h⟩
      show rG _ _ _ _ _ _ [.int z6] _
      exact ag_ret (v := some (.int z6)) dX10_view_104 ⟨_, rfl, rfl⟩ ⟨_, rfl, _, rfl, h⟩ rfl
    · have h := h.2 hc4
      refine ag_aload_n dX10_view_83 rfl (Or.inr ⟨_, rfl⟩) ?_
      refine rr_get (v := .ref (c.2.2.1 + (40 + 1))) ho dX10_view_84 fw_10_142 rfl ?_
      refine ag_goto (tgt := 94) dX10_view_87 rfl ?_
      refine ag_iconst (v := 0) dX10_view_94 rfl ?_
      refine ag_bipush (v := 7) dX10_view_95 (by decide) ?_
      refine ag_iload_n dX10_view_97 rfl ?_
      refine ag_imul dX10_view_98 rfl ?_
      refine ag_iload_n dX10_view_99 rfl ?_
      refine ag_iadd dX10_view_100 rfl ?_
      refine rr_calls (as := [.ref (c.2.2.1 + (40 + 1)), .int 0, .int ((7 * v2) + v3)]) (rest := []) dX10_view_101 me_X10_said ms_X10_said lk_10_298 rfl rfl (Nat.le_of_ble_eq_true rfl) ?_
      refine rM.mono h ?_
      rintro v S7 ⟨z8, rfl, h⟩
      show rG _ _ _ _ _ _ [.int z8] _
      exact ag_ret (v := some (.int z8)) dX10_view_104 ⟨_, rfl, rfl⟩ ⟨_, rfl, _, rfl, h⟩ rfl
  · have h := h.2 hc3
    refine ag_iconst (v := (-1)) dX10_view_77 rfl ?_
    exact ag_ret (v := some (.int (-1))) dX10_view_78 ⟨_, rfl, rfl⟩ ⟨_, rfl, _, rfl, h⟩ rfl
