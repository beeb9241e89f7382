theorem dX1_examineChoice_0 : decode cX1_examineChoice 0 = .ok (.aload_n 0, 1) := by decide +kernel
theorem dX1_examineChoice_1 : decode cX1_examineChoice 1 = .ok (.aload_n 1, 1) := by decide +kernel
theorem dX1_examineChoice_2 : decode cX1_examineChoice 2 = .ok (.getfield 140, 3) := by decide +kernel
theorem dX1_examineChoice_5 : decode cX1_examineChoice 5 = .ok (.aload_n 2, 1) := by decide +kernel
theorem dX1_examineChoice_6 : decode cX1_examineChoice 6 = .ok (.iload 4, 2) := by decide +kernel
theorem dX1_examineChoice_8 : decode cX1_examineChoice 8 = .ok (.invokevirtual 51, 3) := by decide +kernel
theorem dX1_examineChoice_11 : decode cX1_examineChoice 11 = .ok (.astore 5, 2) := by decide +kernel
theorem dX1_examineChoice_13 : decode cX1_examineChoice 13 = .ok (.aload 5, 2) := by decide +kernel
theorem dX1_examineChoice_15 : decode cX1_examineChoice 15 = .ok (.ifnonnull 7, 3) := by decide +kernel
theorem dX1_examineChoice_18 : decode cX1_examineChoice 18 = .ok (.aconst_null, 1) := by decide +kernel
theorem dX1_examineChoice_19 : decode cX1_examineChoice 19 = .ok (.goto 18, 3) := by decide +kernel
theorem dX1_examineChoice_22 : decode cX1_examineChoice 22 = .ok (.aload_n 0, 1) := by decide +kernel
theorem dX1_examineChoice_23 : decode cX1_examineChoice 23 = .ok (.aload_n 1, 1) := by decide +kernel
theorem dX1_examineChoice_24 : decode cX1_examineChoice 24 = .ok (.getfield 160, 3) := by decide +kernel
theorem dX1_examineChoice_27 : decode cX1_examineChoice 27 = .ok (.aload 5, 2) := by decide +kernel
theorem dX1_examineChoice_29 : decode cX1_examineChoice 29 = .ok (.getfield 126, 3) := by decide +kernel
theorem dX1_examineChoice_32 : decode cX1_examineChoice 32 = .ok (.iload 4, 2) := by decide +kernel
theorem dX1_examineChoice_34 : decode cX1_examineChoice 34 = .ok (.invokevirtual 51, 3) := by decide +kernel
theorem dX1_examineChoice_37 : decode cX1_examineChoice 37 = .ok (.astore 6, 2) := by decide +kernel
theorem dX1_examineChoice_39 : decode cX1_examineChoice 39 = .ok (.aload 5, 2) := by decide +kernel
theorem dX1_examineChoice_41 : decode cX1_examineChoice 41 = .ok (.ifnull 8, 3) := by decide +kernel
theorem dX1_examineChoice_44 : decode cX1_examineChoice 44 = .ok (.aload 6, 2) := by decide +kernel
theorem dX1_examineChoice_46 : decode cX1_examineChoice 46 = .ok (.ifnonnull 7, 3) := by decide +kernel
theorem dX1_examineChoice_49 : decode cX1_examineChoice 49 = .ok (.aconst_null, 1) := by decide +kernel
theorem dX1_examineChoice_50 : decode cX1_examineChoice 50 = .ok (.goto 18, 3) := by decide +kernel
theorem dX1_examineChoice_53 : decode cX1_examineChoice 53 = .ok (.aload_n 0, 1) := by decide +kernel
theorem dX1_examineChoice_54 : decode cX1_examineChoice 54 = .ok (.aload_n 1, 1) := by decide +kernel
theorem dX1_examineChoice_55 : decode cX1_examineChoice 55 = .ok (.getfield 163, 3) := by decide +kernel
theorem dX1_examineChoice_58 : decode cX1_examineChoice 58 = .ok (.aload 5, 2) := by decide +kernel
theorem dX1_examineChoice_60 : decode cX1_examineChoice 60 = .ok (.getfield 133, 3) := by decide +kernel
theorem dX1_examineChoice_63 : decode cX1_examineChoice 63 = .ok (.iload 4, 2) := by decide +kernel
theorem dX1_examineChoice_65 : decode cX1_examineChoice 65 = .ok (.invokevirtual 51, 3) := by decide +kernel
theorem dX1_examineChoice_68 : decode cX1_examineChoice 68 = .ok (.astore 7, 2) := by decide +kernel
theorem dX1_examineChoice_70 : decode cX1_examineChoice 70 = .ok (.aload 5, 2) := by decide +kernel
theorem dX1_examineChoice_72 : decode cX1_examineChoice 72 = .ok (.ifnull 13, 3) := by decide +kernel
theorem dX1_examineChoice_75 : decode cX1_examineChoice 75 = .ok (.aload 6, 2) := by decide +kernel
theorem dX1_examineChoice_77 : decode cX1_examineChoice 77 = .ok (.ifnull 8, 3) := by decide +kernel
theorem dX1_examineChoice_80 : decode cX1_examineChoice 80 = .ok (.aload 7, 2) := by decide +kernel
theorem dX1_examineChoice_82 : decode cX1_examineChoice 82 = .ok (.ifnonnull 5, 3) := by decide +kernel
theorem dX1_examineChoice_85 : decode cX1_examineChoice 85 = .ok (.iconst 0, 1) := by decide +kernel
theorem dX1_examineChoice_86 : decode cX1_examineChoice 86 = .ok (.ireturn, 1) := by decide +kernel
theorem dX1_examineChoice_87 : decode cX1_examineChoice 87 = .ok (.aload_n 3, 1) := by decide +kernel
theorem dX1_examineChoice_88 : decode cX1_examineChoice 88 = .ok (.aload 6, 2) := by decide +kernel
theorem dX1_examineChoice_90 : decode cX1_examineChoice 90 = .ok (.getfield 147, 3) := by decide +kernel
theorem dX1_examineChoice_93 : decode cX1_examineChoice 93 = .ok (.aload 7, 2) := by decide +kernel
theorem dX1_examineChoice_95 : decode cX1_examineChoice 95 = .ok (.getfield 147, 3) := by decide +kernel
theorem dX1_examineChoice_98 : decode cX1_examineChoice 98 = .ok (.ior, 1) := by decide +kernel
theorem dX1_examineChoice_99 : decode cX1_examineChoice 99 = .ok (.putfield 147, 3) := by decide +kernel
theorem dX1_examineChoice_102 : decode cX1_examineChoice 102 = .ok (.aload_n 3, 1) := by decide +kernel
theorem dX1_examineChoice_103 : decode cX1_examineChoice 103 = .ok (.iconst (-1), 1) := by decide +kernel
theorem dX1_examineChoice_104 : decode cX1_examineChoice 104 = .ok (.putfield 150, 3) := by decide +kernel
theorem dX1_examineChoice_107 : decode cX1_examineChoice 107 = .ok (.aload_n 3, 1) := by decide +kernel
theorem dX1_examineChoice_108 : decode cX1_examineChoice 108 = .ok (.getfield 126, 3) := by decide +kernel
theorem dX1_examineChoice_111 : decode cX1_examineChoice 111 = .ok (.aload 6, 2) := by decide +kernel
theorem dX1_examineChoice_113 : decode cX1_examineChoice 113 = .ok (.getfield 126, 3) := by decide +kernel
theorem dX1_examineChoice_116 : decode cX1_examineChoice 116 = .ok (.invokevirtual 153, 3) := by decide +kernel
theorem dX1_examineChoice_119 : decode cX1_examineChoice 119 = .ok (.aload_n 3, 1) := by decide +kernel
theorem dX1_examineChoice_120 : decode cX1_examineChoice 120 = .ok (.getfield 126, 3) := by decide +kernel
theorem dX1_examineChoice_123 : decode cX1_examineChoice 123 = .ok (.aload 7, 2) := by decide +kernel
theorem dX1_examineChoice_125 : decode cX1_examineChoice 125 = .ok (.getfield 126, 3) := by decide +kernel
theorem dX1_examineChoice_128 : decode cX1_examineChoice 128 = .ok (.invokevirtual 166, 3) := by decide +kernel
theorem dX1_examineChoice_131 : decode cX1_examineChoice 131 = .ok (.aload_n 3, 1) := by decide +kernel
theorem dX1_examineChoice_132 : decode cX1_examineChoice 132 = .ok (.getfield 133, 3) := by decide +kernel
theorem dX1_examineChoice_135 : decode cX1_examineChoice 135 = .ok (.aload 6, 2) := by decide +kernel
theorem dX1_examineChoice_137 : decode cX1_examineChoice 137 = .ok (.getfield 133, 3) := by decide +kernel
theorem dX1_examineChoice_140 : decode cX1_examineChoice 140 = .ok (.invokevirtual 153, 3) := by decide +kernel
theorem dX1_examineChoice_143 : decode cX1_examineChoice 143 = .ok (.aload_n 3, 1) := by decide +kernel
theorem dX1_examineChoice_144 : decode cX1_examineChoice 144 = .ok (.getfield 133, 3) := by decide +kernel
theorem dX1_examineChoice_147 : decode cX1_examineChoice 147 = .ok (.aload 7, 2) := by decide +kernel
theorem dX1_examineChoice_149 : decode cX1_examineChoice 149 = .ok (.getfield 133, 3) := by decide +kernel
theorem dX1_examineChoice_152 : decode cX1_examineChoice 152 = .ok (.invokevirtual 166, 3) := by decide +kernel
theorem dX1_examineChoice_155 : decode cX1_examineChoice 155 = .ok (.iconst 1, 1) := by decide +kernel
theorem dX1_examineChoice_156 : decode cX1_examineChoice 156 = .ok (.ireturn, 1) := by decide +kernel
set_option maxRecDepth 20000 in
set_option maxHeartbeats 4000000 in
theorem w_X1_examineChoice {c : cX} {d : Nat} {C : cS} {K : Option Value → cS → Prop} (t : Nat) (p0 : Option Nat) (p1 : Option Nat) (p2 : Option Nat) (p3 : Int32) (h : ∃ a1 : Nat, p0 = some a1 ∧ (cT C a1 5 7 ∧ (cT C t 1 7 ∧ (cM c d eX1_examine (.ref t :: [va_rf (cR C a1 4), va_rf p1, .int p3]) C (fun v C4 => ∃ z5 : Option Nat, v = some (va_rf z5) ∧ cle C C4 ∧ ((z5 = none → (cG c eX1_examineChoice (d + 1) (cQ K) 37 [some (.ref t), some (va_rf p0), none, some (va_rf p2), some (.int p3), some (va_rf z5), none, none] [va_rf none] C4)) ∧ (∀ a11 : Nat, z5 = some a11 → (cT C4 a11 2 4 ∧ (cM c d eX1_examine (.ref t :: [va_rf (cR C4 a1 5), va_rf (cR C4 a11 2), .int p3]) C4 (fun v C13 => ∃ z14 : Option Nat, v = some (va_rf z14) ∧ cle C4 C13 ∧ (cG c eX1_examineChoice (d + 1) (cQ K) 37 [some (.ref t), some (va_rf p0), none, some (va_rf p2), some (.int p3), some (va_rf z5), none, none] [va_rf z14] C13))))))))))) : cM c (d + 1) eX1_examineChoice [.ref t, va_rf p0, va_rf p1, va_rf p2, .int p3] C K := by
  refine cM.of2 (lv := [some (.ref t), some (va_rf p0), some (va_rf p1), some (va_rf p2), some (.int p3), none, none, none]) (by decide) (by simp only [am_sl_i, am_sl_r, am_sl_l, am_sl_o, am_sl_n]; exact Nat.le_of_ble_eq_true rfl) (by simp only [am_en, am_sl_i, am_sl_r, am_sl_l, am_sl_o, am_sl_n]; rfl) ?_
  refine ag_aload_n dX1_examineChoice_0 rfl (Or.inr ⟨_, rfl⟩) ?_
  refine ag_aload_n dX1_examineChoice_1 rfl (va_rf_or _) ?_
  obtain ⟨a1, hr2, h⟩ := h
  refine cr_stk (st' := [.ref a1, .ref t]) (by rw [hr2]; rfl) ?_
  obtain ⟨hT3, h⟩ := h
  refine cr_get (v := va_rf (cR C a1 4)) dX1_examineChoice_2 fw_1_140 hT3 rfl ?_
  refine ag_aload_n dX1_examineChoice_5 rfl (va_rf_or _) ?_
  refine ag_iload dX1_examineChoice_6 rfl ?_
  obtain ⟨hT7, h⟩ := h
  refine cr_callV (as := [va_rf (cR C a1 4), va_rf p1, .int p3]) (rest := []) dX1_examineChoice_8 me_X1_examine mi_X1_examine lk_1_51 hT7 rfl rfl (Nat.le_of_ble_eq_true rfl) ?_
  refine cM.mono h ?_
  rintro v C4 ⟨z5, rfl, hL6, h⟩
  have hT8 := cT.le (C := C) hT3 hL6
  have hT9 := cT.le (C := C) hT7 hL6
  show cG _ _ _ _ _ _ [va_rf z5] _
  refine ag_astore (lv2 := [some (.ref t), some (va_rf p0), some (va_rf p1), some (va_rf p2), some (.int p3), some (va_rf z5), none, none]) dX1_examineChoice_11 (Nat.le_of_ble_eq_true rfl) rfl (va_rf_or _) ?_
  refine ag_aload dX1_examineChoice_13 rfl (va_rf_or _) ?_
  refine cr_ifnonnull (tgt := 22) dX1_examineChoice_15 rfl (fun a11 hr10 => ?_) (fun hr10 => ?_)
  · have h := h.2 a11 hr10
    refine ag_aload_n dX1_examineChoice_22 rfl (Or.inr ⟨_, rfl⟩) ?_
    refine ag_aload_n dX1_examineChoice_23 rfl (va_rf_or _) ?_
    refine cr_stk (st' := [.ref a1, .ref t]) (by rw [hr2]; rfl) ?_
    refine cr_get (v := va_rf (cR C4 a1 5)) dX1_examineChoice_24 fw_1_160 hT8 rfl ?_
    refine ag_aload dX1_examineChoice_27 rfl (va_rf_or _) ?_
    refine cr_stk (st' := [.ref a11, va_rf (cR C4 a1 5), .ref t]) (by rw [hr10]; rfl) ?_
    obtain ⟨hT12, h⟩ := h
    refine cr_get (v := va_rf (cR C4 a11 2)) dX1_examineChoice_29 fw_1_126 hT12 rfl ?_
    refine ag_iload dX1_examineChoice_32 rfl ?_
    refine cr_callV (as := [va_rf (cR C4 a1 5), va_rf (cR C4 a11 2), .int p3]) (rest := []) dX1_examineChoice_34 me_X1_examine mi_X1_examine lk_1_51 hT9 rfl rfl (Nat.le_of_ble_eq_true rfl) ?_
    refine cM.mono h ?_
    rintro v C13 ⟨z14, rfl, hL15, h⟩
    have hT16 := cT.le (C := C4) hT8 hL15
    have hT17 := cT.le (C := C4) hT9 hL15
    have hT18 := cT.le (C := C4) hT12 hL15
    show cG _ _ _ _ _ _ [va_rf z14] _
    refine ag_drop 2 ?_
    exact h
  · have h := h.1 hr10
    refine ag_null dX1_examineChoice_18 ?_
    refine ag_goto (tgt := 37) dX1_examineChoice_19 rfl ?_
    refine ag_drop 2 ?_
    exact h
set_option maxRecDepth 20000 in
set_option maxHeartbeats 4000000 in
theorem w_X1_examineChoice_37 {c : cX} {d : Nat} {C : cS} {K : Option Value → cS → Prop} (t : Nat) (v1 : Option Nat) (v3 : Option Nat) (v4 : Int32) (v5 : Option Nat) (s0 : Option Nat) (h : (v5 = none → (cG c eX1_examineChoice (d + 1) (cQ K) 68 [none, none, none, some (va_rf v3), none, some (va_rf v5), some (va_rf s0), none] [va_rf none] C)) ∧ (∀ a2 : Nat, v5 = some a2 → ((s0 = none → (cG c eX1_examineChoice (d + 1) (cQ K) 68 [none, none, none, some (va_rf v3), none, some (va_rf v5), some (va_rf s0), none] [va_rf none] C)) ∧ (∀ a4 : Nat, s0 = some a4 → (∃ a5 : Nat, v1 = some a5 ∧ (cT C a5 5 7 ∧ (cT C a2 2 4 ∧ (cT C t 1 7 ∧ (cM c d eX1_examine (.ref t :: [va_rf (cR C a5 6), va_rf (cR C a2 3), .int v4]) C (fun v C9 => ∃ z10 : Option Nat, v = some (va_rf z10) ∧ cle C C9 ∧ (cG c eX1_examineChoice (d + 1) (cQ K) 68 [none, none, none, some (va_rf v3), none, some (va_rf v5), some (va_rf s0), none] [va_rf z10] C9))))))))))) : cG c eX1_examineChoice (d + 1) (cQ K) 37 [some (.ref t), some (va_rf v1), none, some (va_rf v3), some (.int v4), some (va_rf v5), none, none] [va_rf s0] C := by
  refine ag_astore (lv2 := [some (.ref t), some (va_rf v1), none, some (va_rf v3), some (.int v4), some (va_rf v5), some (va_rf s0), none]) dX1_examineChoice_37 (Nat.le_of_ble_eq_true rfl) (by simp [am_st1, am_kill, va_rf_cat] <;> rfl) (va_rf_or _) ?_
  refine ag_aload dX1_examineChoice_39 rfl (va_rf_or _) ?_
  refine cr_ifnull (tgt := 49) dX1_examineChoice_41 rfl (fun hr1 => ?_) (fun a2 hr1 => ?_)
  · have h := h.1 hr1
    refine ag_null dX1_examineChoice_49 ?_
    refine ag_goto (tgt := 68) dX1_examineChoice_50 rfl ?_
    refine ag_drop 0 ?_
    refine ag_drop 1 ?_
    refine ag_drop 4 ?_
    exact h
  · have h := h.2 a2 hr1
    refine ag_aload dX1_examineChoice_44 rfl (va_rf_or _) ?_
    refine cr_ifnonnull (tgt := 53) dX1_examineChoice_46 rfl (fun a4 hr3 => ?_) (fun hr3 => ?_)
    · have h := h.2 a4 hr3
      refine ag_aload_n dX1_examineChoice_53 rfl (Or.inr ⟨_, rfl⟩) ?_
      refine ag_aload_n dX1_examineChoice_54 rfl (va_rf_or _) ?_
      obtain ⟨a5, hr6, h⟩ := h
      refine cr_stk (st' := [.ref a5, .ref t]) (by rw [hr6]; rfl) ?_
      obtain ⟨hT7, h⟩ := h
      refine cr_get (v := va_rf (cR C a5 6)) dX1_examineChoice_55 fw_1_163 hT7 rfl ?_
      refine ag_aload dX1_examineChoice_58 rfl (va_rf_or _) ?_
      refine cr_stk (st' := [.ref a2, va_rf (cR C a5 6), .ref t]) (by rw [hr1]; rfl) ?_
      obtain ⟨hT8, h⟩ := h
      refine cr_get (v := va_rf (cR C a2 3)) dX1_examineChoice_60 fw_1_133 hT8 rfl ?_
      refine ag_iload dX1_examineChoice_63 rfl ?_
      obtain ⟨hT12, h⟩ := h
      refine cr_callV (as := [va_rf (cR C a5 6), va_rf (cR C a2 3), .int v4]) (rest := []) dX1_examineChoice_65 me_X1_examine mi_X1_examine lk_1_51 hT12 rfl rfl (Nat.le_of_ble_eq_true rfl) ?_
      refine cM.mono h ?_
      rintro v C9 ⟨z10, rfl, hL11, h⟩
      have hT13 := cT.le (C := C) hT7 hL11
      have hT14 := cT.le (C := C) hT8 hL11
      have hT15 := cT.le (C := C) hT12 hL11
      show cG _ _ _ _ _ _ [va_rf z10] _
      refine ag_drop 0 ?_
      refine ag_drop 1 ?_
      refine ag_drop 4 ?_
      exact h
    · have h := h.1 hr3
      refine ag_null dX1_examineChoice_49 ?_
      refine ag_goto (tgt := 68) dX1_examineChoice_50 rfl ?_
      refine ag_drop 0 ?_
      refine ag_drop 1 ?_
      refine ag_drop 4 ?_
      exact h
set_option maxRecDepth 20000 in
set_option maxHeartbeats 4000000 in
theorem w_X1_examineChoice_68 {c : cX} {d : Nat} {C : cS} {K : Option Value → cS → Prop} (v3 : Option Nat) (v5 : Option Nat) (v6 : Option Nat) (s0 : Option Nat) (h : (v5 = none → (K (some (.int 0)) C)) ∧ (∀ a2 : Nat, v5 = some a2 → ((v6 = none → (K (some (.int 0)) C)) ∧ (∀ a4 : Nat, v6 = some a4 → ((s0 = none → (K (some (.int 0)) C)) ∧ (∀ a6 : Nat, s0 = some a6 → (cT C a4 2 4 ∧ (cT C a6 2 4 ∧ (∃ a9 : Nat, v3 = some a9 ∧ (cT C a9 2 4 ∧ (∃ a12 : Nat, (cR C a9 2) = some a12 ∧ (cT C a12 8 2 ∧ (cM c d eX8_copy (.ref a12 :: [va_rf (cR C a4 2)]) (csi (csi C a9 0 ((cI C a4 0) ||| (cI C a6 0))) a9 1 (-1)) (fun v C14 => v = none ∧ cle (csi (csi C a9 0 ((cI C a4 0) ||| (cI C a6 0))) a9 1 (-1)) C14 ∧ (∃ a22 : Nat, (cR C14 a9 2) = some a22 ∧ (cT C14 a22 8 2 ∧ (cM c d eX8_allowEither (.ref a22 :: [va_rf (cR C14 a6 2)]) C14 (fun v C24 => v = none ∧ cle C14 C24 ∧ (∃ a33 : Nat, (cR C24 a9 3) = some a33 ∧ (cT C24 a33 8 2 ∧ (cM c d eX8_copy (.ref a33 :: [va_rf (cR C24 a4 3)]) C24 (fun v C35 => v = none ∧ cle C24 C35 ∧ (∃ a45 : Nat, (cR C35 a9 3) = some a45 ∧ (cT C35 a45 8 2 ∧ (cM c d eX8_allowEither (.ref a45 :: [va_rf (cR C35 a6 3)]) C35 (fun v C47 => v = none ∧ cle C35 C47 ∧ (K (some (.int 1)) C47))))))))))))))))))))))))))) : cG c eX1_examineChoice (d + 1) (cQ K) 68 [none, none, none, some (va_rf v3), none, some (va_rf v5), some (va_rf v6), none] [va_rf s0] C := by
  refine ag_astore (lv2 := [none, none, none, some (va_rf v3), none, some (va_rf v5), some (va_rf v6), some (va_rf s0)]) dX1_examineChoice_68 (Nat.le_of_ble_eq_true rfl) (by simp [am_st1, am_kill, va_rf_cat] <;> rfl) (va_rf_or _) ?_
  refine ag_aload dX1_examineChoice_70 rfl (va_rf_or _) ?_
  refine cr_ifnull (tgt := 85) dX1_examineChoice_72 rfl (fun hr1 => ?_) (fun a2 hr1 => ?_)
  · have h := h.1 hr1
    refine ag_iconst (v := 0) dX1_examineChoice_85 rfl ?_
    exact ag_ret (v := some (.int 0)) dX1_examineChoice_86 ⟨_, rfl, rB_n (Or.inl rfl)⟩ ⟨_, rfl, _, rfl, h⟩ rfl
  · have h := h.2 a2 hr1
    refine ag_aload dX1_examineChoice_75 rfl (va_rf_or _) ?_
    refine cr_ifnull (tgt := 85) dX1_examineChoice_77 rfl (fun hr3 => ?_) (fun a4 hr3 => ?_)
    · have h := h.1 hr3
      refine ag_iconst (v := 0) dX1_examineChoice_85 rfl ?_
      exact ag_ret (v := some (.int 0)) dX1_examineChoice_86 ⟨_, rfl, rB_n (Or.inl rfl)⟩ ⟨_, rfl, _, rfl, h⟩ rfl
    · have h := h.2 a4 hr3
      refine ag_aload dX1_examineChoice_80 rfl (va_rf_or _) ?_
      refine cr_ifnonnull (tgt := 87) dX1_examineChoice_82 rfl (fun a6 hr5 => ?_) (fun hr5 => ?_)
      · have h := h.2 a6 hr5
        refine ag_aload_n dX1_examineChoice_87 rfl (va_rf_or _) ?_
        refine ag_aload dX1_examineChoice_88 rfl (va_rf_or _) ?_
        refine cr_stk (st' := [.ref a4, va_rf v3]) (by rw [hr3]; rfl) ?_
        obtain ⟨hT7, h⟩ := h
        refine cr_get (v := .int (cI C a4 0)) dX1_examineChoice_90 fw_1_147 hT7 rfl ?_
        refine ag_aload dX1_examineChoice_93 rfl (va_rf_or _) ?_
        refine cr_stk (st' := [.ref a6, .int (cI C a4 0), va_rf v3]) (by rw [hr5]; rfl) ?_
        obtain ⟨hT8, h⟩ := h
        refine cr_get (v := .int (cI C a6 0)) dX1_examineChoice_95 fw_1_147 hT8 rfl ?_
        refine ag_ior dX1_examineChoice_98 rfl ?_
        obtain ⟨a9, hr10, h⟩ := h
        refine cr_stk (st' := [.int ((cI C a4 0) ||| (cI C a6 0)), .ref a9]) (by rw [hr10]; rfl) ?_
        obtain ⟨hT11, h⟩ := h
        refine cr_pi (C2 := (csi C a9 0 ((cI C a4 0) ||| (cI C a6 0)))) dX1_examineChoice_99 pw_1_147 rfl hT11 (fun _ => ⟨rfl, rfl⟩) rfl ?_
        refine ag_aload_n dX1_examineChoice_102 rfl (va_rf_or _) ?_
        refine ag_iconst (v := (-1)) dX1_examineChoice_103 rfl ?_
        refine cr_stk (st' := [.int (-1), .ref a9]) (by rw [hr10]; rfl) ?_
        refine cr_pi (C2 := (csi (csi C a9 0 ((cI C a4 0) ||| (cI C a6 0))) a9 1 (-1))) dX1_examineChoice_104 pw_1_150 rfl hT11 (fun _ => ⟨rfl, rfl⟩) rfl ?_
        refine ag_aload_n dX1_examineChoice_107 rfl (va_rf_or _) ?_
        refine cr_stk (st' := [.ref a9]) (by rw [hr10]; rfl) ?_
        refine cr_get (v := va_rf (cR C a9 2)) dX1_examineChoice_108 fw_1_126 hT11 rfl ?_
        refine ag_aload dX1_examineChoice_111 rfl (va_rf_or _) ?_
        refine cr_stk (st' := [.ref a4, va_rf (cR C a9 2)]) (by rw [hr3]; rfl) ?_
        refine cr_get (v := va_rf (cR C a4 2)) dX1_examineChoice_113 fw_1_126 hT7 rfl ?_
        obtain ⟨a12, hr13, h⟩ := h
        refine cr_stk (st' := [va_rf (cR C a4 2), .ref a12]) (by rw [hr13]; rfl) ?_
        obtain ⟨hT17, h⟩ := h
        refine cr_callV (as := [va_rf (cR C a4 2)]) (rest := []) dX1_examineChoice_116 me_X8_copy mi_X8_copy lk_1_153 hT17 rfl rfl (Nat.le_of_ble_eq_true rfl) ?_
        refine cM.mono h ?_
        rintro v C14 ⟨rfl, hL16, h⟩
        have hT18 := cT.le (C := (csi (csi C a9 0 ((cI C a4 0) ||| (cI C a6 0))) a9 1 (-1))) hT7 hL16
        have hT19 := cT.le (C := (csi (csi C a9 0 ((cI C a4 0) ||| (cI C a6 0))) a9 1 (-1))) hT8 hL16
        have hT20 := cT.le (C := (csi (csi C a9 0 ((cI C a4 0) ||| (cI C a6 0))) a9 1 (-1))) hT11 hL16
        have hT21 := cT.le (C := (csi (csi C a9 0 ((cI C a4 0) ||| (cI C a6 0))) a9 1 (-1))) hT17 hL16
        show cG _ _ _ _ _ _ [] _
        refine ag_aload_n dX1_examineChoice_119 rfl (va_rf_or _) ?_
        refine cr_stk (st' := [.ref a9]) (by rw [hr10]; rfl) ?_
        refine cr_get (v := va_rf (cR C14 a9 2)) dX1_examineChoice_120 fw_1_126 hT20 rfl ?_
        refine ag_aload dX1_examineChoice_123 rfl (va_rf_or _) ?_
        refine cr_stk (st' := [.ref a6, va_rf (cR C14 a9 2)]) (by rw [hr5]; rfl) ?_
        refine cr_get (v := va_rf (cR C14 a6 2)) dX1_examineChoice_125 fw_1_126 hT19 rfl ?_
        obtain ⟨a22, hr23, h⟩ := h
        refine cr_stk (st' := [va_rf (cR C14 a6 2), .ref a22]) (by rw [hr23]; rfl) ?_
        obtain ⟨hT27, h⟩ := h
        refine cr_callV (as := [va_rf (cR C14 a6 2)]) (rest := []) dX1_examineChoice_128 me_X8_allowEither mi_X8_allowEither lk_1_166 hT27 rfl rfl (Nat.le_of_ble_eq_true rfl) ?_
        refine cM.mono h ?_
        rintro v C24 ⟨rfl, hL26, h⟩
        have hT28 := cT.le (C := C14) hT18 hL26
        have hT29 := cT.le (C := C14) hT19 hL26
        have hT30 := cT.le (C := C14) hT20 hL26
        have hT31 := cT.le (C := C14) hT21 hL26
        have hT32 := cT.le (C := C14) hT27 hL26
        show cG _ _ _ _ _ _ [] _
        refine ag_aload_n dX1_examineChoice_131 rfl (va_rf_or _) ?_
        refine cr_stk (st' := [.ref a9]) (by rw [hr10]; rfl) ?_
        refine cr_get (v := va_rf (cR C24 a9 3)) dX1_examineChoice_132 fw_1_133 hT30 rfl ?_
        refine ag_aload dX1_examineChoice_135 rfl (va_rf_or _) ?_
        refine cr_stk (st' := [.ref a4, va_rf (cR C24 a9 3)]) (by rw [hr3]; rfl) ?_
        refine cr_get (v := va_rf (cR C24 a4 3)) dX1_examineChoice_137 fw_1_133 hT28 rfl ?_
        obtain ⟨a33, hr34, h⟩ := h
        refine cr_stk (st' := [va_rf (cR C24 a4 3), .ref a33]) (by rw [hr34]; rfl) ?_
        obtain ⟨hT38, h⟩ := h
        refine cr_callV (as := [va_rf (cR C24 a4 3)]) (rest := []) dX1_examineChoice_140 me_X8_copy mi_X8_copy lk_1_153 hT38 rfl rfl (Nat.le_of_ble_eq_true rfl) ?_
        refine cM.mono h ?_
        rintro v C35 ⟨rfl, hL37, h⟩
        have hT39 := cT.le (C := C24) hT28 hL37
        have hT40 := cT.le (C := C24) hT29 hL37
        have hT41 := cT.le (C := C24) hT30 hL37
        have hT42 := cT.le (C := C24) hT31 hL37
        have hT43 := cT.le (C := C24) hT32 hL37
        have hT44 := cT.le (C := C24) hT38 hL37
        show cG _ _ _ _ _ _ [] _
        refine ag_aload_n dX1_examineChoice_143 rfl (va_rf_or _) ?_
        refine cr_stk (st' := [.ref a9]) (by rw [hr10]; rfl) ?_
        refine cr_get (v := va_rf (cR C35 a9 3)) dX1_examineChoice_144 fw_1_133 hT41 rfl ?_
        refine ag_aload dX1_examineChoice_147 rfl (va_rf_or _) ?_
        refine cr_stk (st' := [.ref a6, va_rf (cR C35 a9 3)]) (by rw [hr5]; rfl) ?_
        refine cr_get (v := va_rf (cR C35 a6 3)) dX1_examineChoice_149 fw_1_133 hT40 rfl ?_
        obtain ⟨a45, hr46, h⟩ := h
        refine cr_stk (st' := [va_rf (cR C35 a6 3), .ref a45]) (by rw [hr46]; rfl) ?_
        obtain ⟨hT50, h⟩ := h
        refine cr_callV (as := [va_rf (cR C35 a6 3)]) (rest := []) dX1_examineChoice_152 me_X8_allowEither mi_X8_allowEither lk_1_166 hT50 rfl rfl (Nat.le_of_ble_eq_true rfl) ?_
        refine cM.mono h ?_
        rintro v C47 ⟨rfl, hL49, h⟩
        have hT51 := cT.le (C := C35) hT39 hL49
        have hT52 := cT.le (C := C35) hT40 hL49
        have hT53 := cT.le (C := C35) hT41 hL49
        have hT54 := cT.le (C := C35) hT42 hL49
        have hT55 := cT.le (C := C35) hT43 hL49
        have hT56 := cT.le (C := C35) hT44 hL49
        have hT57 := cT.le (C := C35) hT50 hL49
        show cG _ _ _ _ _ _ [] _
        refine ag_iconst (v := 1) dX1_examineChoice_155 rfl ?_
        exact ag_ret (v := some (.int 1)) dX1_examineChoice_156 ⟨_, rfl, rB_n (Or.inr rfl)⟩ ⟨_, rfl, _, rfl, h⟩ rfl
      · have h := h.1 hr5
        refine ag_iconst (v := 0) dX1_examineChoice_85 rfl ?_
        exact ag_ret (v := some (.int 0)) dX1_examineChoice_86 ⟨_, rfl, rB_n (Or.inl rfl)⟩ ⟨_, rfl, _, rfl, h⟩ rfl
theorem dX1_examineAnd_0 : decode cX1_examineAnd 0 = .ok (.aload_n 0, 1) := by decide +kernel
theorem dX1_examineAnd_1 : decode cX1_examineAnd 1 = .ok (.aload_n 1, 1) := by decide +kernel
theorem dX1_examineAnd_2 : decode cX1_examineAnd 2 = .ok (.getfield 140, 3) := by decide +kernel
theorem dX1_examineAnd_5 : decode cX1_examineAnd 5 = .ok (.aload_n 2, 1) := by decide +kernel
theorem dX1_examineAnd_6 : decode cX1_examineAnd 6 = .ok (.iload 4, 2) := by decide +kernel
theorem dX1_examineAnd_8 : decode cX1_examineAnd 8 = .ok (.invokevirtual 51, 3) := by decide +kernel
theorem dX1_examineAnd_11 : decode cX1_examineAnd 11 = .ok (.astore 5, 2) := by decide +kernel
theorem dX1_examineAnd_13 : decode cX1_examineAnd 13 = .ok (.aload 5, 2) := by decide +kernel
theorem dX1_examineAnd_15 : decode cX1_examineAnd 15 = .ok (.ifnonnull 7, 3) := by decide +kernel
theorem dX1_examineAnd_18 : decode cX1_examineAnd 18 = .ok (.aconst_null, 1) := by decide +kernel
theorem dX1_examineAnd_19 : decode cX1_examineAnd 19 = .ok (.goto 18, 3) := by decide +kernel
theorem dX1_examineAnd_22 : decode cX1_examineAnd 22 = .ok (.aload_n 0, 1) := by decide +kernel
theorem dX1_examineAnd_23 : decode cX1_examineAnd 23 = .ok (.aload_n 1, 1) := by decide +kernel
theorem dX1_examineAnd_24 : decode cX1_examineAnd 24 = .ok (.getfield 160, 3) := by decide +kernel
theorem dX1_examineAnd_27 : decode cX1_examineAnd 27 = .ok (.aload 5, 2) := by decide +kernel
theorem dX1_examineAnd_29 : decode cX1_examineAnd 29 = .ok (.getfield 126, 3) := by decide +kernel
theorem dX1_examineAnd_32 : decode cX1_examineAnd 32 = .ok (.iload 4, 2) := by decide +kernel
theorem dX1_examineAnd_34 : decode cX1_examineAnd 34 = .ok (.invokevirtual 51, 3) := by decide +kernel
theorem dX1_examineAnd_37 : decode cX1_examineAnd 37 = .ok (.astore 6, 2) := by decide +kernel
theorem dX1_examineAnd_39 : decode cX1_examineAnd 39 = .ok (.aload 5, 2) := by decide +kernel
theorem dX1_examineAnd_41 : decode cX1_examineAnd 41 = .ok (.ifnull 8, 3) := by decide +kernel
theorem dX1_examineAnd_44 : decode cX1_examineAnd 44 = .ok (.aload 6, 2) := by decide +kernel
theorem dX1_examineAnd_46 : decode cX1_examineAnd 46 = .ok (.ifnonnull 5, 3) := by decide +kernel
theorem dX1_examineAnd_49 : decode cX1_examineAnd 49 = .ok (.iconst 0, 1) := by decide +kernel
theorem dX1_examineAnd_50 : decode cX1_examineAnd 50 = .ok (.ireturn, 1) := by decide +kernel
theorem dX1_examineAnd_51 : decode cX1_examineAnd 51 = .ok (.aload_n 3, 1) := by decide +kernel
theorem dX1_examineAnd_52 : decode cX1_examineAnd 52 = .ok (.aload 6, 2) := by decide +kernel
theorem dX1_examineAnd_54 : decode cX1_examineAnd 54 = .ok (.getfield 147, 3) := by decide +kernel
theorem dX1_examineAnd_57 : decode cX1_examineAnd 57 = .ok (.aload 5, 2) := by decide +kernel
theorem dX1_examineAnd_59 : decode cX1_examineAnd 59 = .ok (.getfield 133, 3) := by decide +kernel
theorem dX1_examineAnd_62 : decode cX1_examineAnd 62 = .ok (.getfield 60, 3) := by decide +kernel
theorem dX1_examineAnd_65 : decode cX1_examineAnd 65 = .ok (.ifCond .eq 7, 3) := by decide +kernel
theorem dX1_examineAnd_68 : decode cX1_examineAnd 68 = .ok (.iconst 0, 1) := by decide +kernel
theorem dX1_examineAnd_69 : decode cX1_examineAnd 69 = .ok (.goto 4, 3) := by decide +kernel
theorem dX1_examineAnd_72 : decode cX1_examineAnd 72 = .ok (.iconst 4, 1) := by decide +kernel
theorem dX1_examineAnd_73 : decode cX1_examineAnd 73 = .ok (.ior, 1) := by decide +kernel
theorem dX1_examineAnd_74 : decode cX1_examineAnd 74 = .ok (.putfield 147, 3) := by decide +kernel
theorem dX1_examineAnd_77 : decode cX1_examineAnd 77 = .ok (.aload_n 3, 1) := by decide +kernel
theorem dX1_examineAnd_78 : decode cX1_examineAnd 78 = .ok (.iconst (-1), 1) := by decide +kernel
theorem dX1_examineAnd_79 : decode cX1_examineAnd 79 = .ok (.putfield 150, 3) := by decide +kernel
theorem dX1_examineAnd_82 : decode cX1_examineAnd 82 = .ok (.aload_n 3, 1) := by decide +kernel
theorem dX1_examineAnd_83 : decode cX1_examineAnd 83 = .ok (.getfield 126, 3) := by decide +kernel
theorem dX1_examineAnd_86 : decode cX1_examineAnd 86 = .ok (.aload 6, 2) := by decide +kernel
theorem dX1_examineAnd_88 : decode cX1_examineAnd 88 = .ok (.getfield 126, 3) := by decide +kernel
theorem dX1_examineAnd_91 : decode cX1_examineAnd 91 = .ok (.invokevirtual 153, 3) := by decide +kernel
theorem dX1_examineAnd_94 : decode cX1_examineAnd 94 = .ok (.aload_n 3, 1) := by decide +kernel
theorem dX1_examineAnd_95 : decode cX1_examineAnd 95 = .ok (.getfield 133, 3) := by decide +kernel
theorem dX1_examineAnd_98 : decode cX1_examineAnd 98 = .ok (.aload 6, 2) := by decide +kernel
theorem dX1_examineAnd_100 : decode cX1_examineAnd 100 = .ok (.getfield 133, 3) := by decide +kernel
theorem dX1_examineAnd_103 : decode cX1_examineAnd 103 = .ok (.invokevirtual 153, 3) := by decide +kernel
theorem dX1_examineAnd_106 : decode cX1_examineAnd 106 = .ok (.aload_n 3, 1) := by decide +kernel
theorem dX1_examineAnd_107 : decode cX1_examineAnd 107 = .ok (.getfield 133, 3) := by decide +kernel
theorem dX1_examineAnd_110 : decode cX1_examineAnd 110 = .ok (.aload 5, 2) := by decide +kernel
theorem dX1_examineAnd_112 : decode cX1_examineAnd 112 = .ok (.getfield 133, 3) := by decide +kernel
theorem dX1_examineAnd_115 : decode cX1_examineAnd 115 = .ok (.invokevirtual 166, 3) := by decide +kernel
theorem dX1_examineAnd_118 : decode cX1_examineAnd 118 = .ok (.iconst 1, 1) := by decide +kernel
theorem dX1_examineAnd_119 : decode cX1_examineAnd 119 = .ok (.ireturn, 1) := by decide +kernel
set_option maxRecDepth 20000 in
set_option maxHeartbeats 4000000 in
theorem w_X1_examineAnd {c : cX} {d : Nat} {C : cS} {K : Option Value → cS → Prop} (t : Nat) (p0 : Option Nat) (p1 : Option Nat) (p2 : Option Nat) (p3 : Int32) (h : ∃ a1 : Nat, p0 = some a1 ∧ (cT C a1 5 7 ∧ (cT C t 1 7 ∧ (cM c d eX1_examine (.ref t :: [va_rf (cR C a1 4), va_rf p1, .int p3]) C (fun v C4 => ∃ z5 : Option Nat, v = some (va_rf z5) ∧ cle C C4 ∧ ((z5 = none → (cG c eX1_examineAnd (d + 1) (cQ K) 37 [none, none, none, some (va_rf p2), none, some (va_rf z5), none] [va_rf none] C4)) ∧ (∀ a11 : Nat, z5 = some a11 → (cT C4 a11 2 4 ∧ (cM c d eX1_examine (.ref t :: [va_rf (cR C4 a1 5), va_rf (cR C4 a11 2), .int p3]) C4 (fun v C13 => ∃ z14 : Option Nat, v = some (va_rf z14) ∧ cle C4 C13 ∧ (cG c eX1_examineAnd (d + 1) (cQ K) 37 [none, none, none, some (va_rf p2), none, some (va_rf z5), none] [va_rf z14] C13))))))))))) : cM c (d + 1) eX1_examineAnd [.ref t, va_rf p0, va_rf p1, va_rf p2, .int p3] C K := by
  refine cM.of2 (lv := [some (.ref t), some (va_rf p0), some (va_rf p1), some (va_rf p2), some (.int p3), none, none]) (by decide) (by simp only [am_sl_i, am_sl_r, am_sl_l, am_sl_o, am_sl_n]; exact Nat.le_of_ble_eq_true rfl) (by simp only [am_en, am_sl_i, am_sl_r, am_sl_l, am_sl_o, am_sl_n]; rfl) ?_
  refine ag_aload_n dX1_examineAnd_0 rfl (Or.inr ⟨_, rfl⟩) ?_
  refine ag_aload_n dX1_examineAnd_1 rfl (va_rf_or _) ?_
  obtain ⟨a1, hr2, h⟩ := h
  refine cr_stk (st' := [.ref a1, .ref t]) (by rw [hr2]; rfl) ?_
  obtain ⟨hT3, h⟩ := h
  refine cr_get (v := va_rf (cR C a1 4)) dX1_examineAnd_2 fw_1_140 hT3 rfl ?_
  refine ag_aload_n dX1_examineAnd_5 rfl (va_rf_or _) ?_
  refine ag_iload dX1_examineAnd_6 rfl ?_
  obtain ⟨hT7, h⟩ := h
  refine cr_callV (as := [va_rf (cR C a1 4), va_rf p1, .int p3]) (rest := []) dX1_examineAnd_8 me_X1_examine mi_X1_examine lk_1_51 hT7 rfl rfl (Nat.le_of_ble_eq_true rfl) ?_
  refine cM.mono h ?_
  rintro v C4 ⟨z5, rfl, hL6, h⟩
  have hT8 := cT.le (C := C) hT3 hL6
  have hT9 := cT.le (C := C) hT7 hL6
  show cG _ _ _ _ _ _ [va_rf z5] _
  refine ag_astore (lv2 := [some (.ref t), some (va_rf p0), some (va_rf p1), some (va_rf p2), some (.int p3), some (va_rf z5), none]) dX1_examineAnd_11 (Nat.le_of_ble_eq_true rfl) rfl (va_rf_or _) ?_
  refine ag_aload dX1_examineAnd_13 rfl (va_rf_or _) ?_
  refine cr_ifnonnull (tgt := 22) dX1_examineAnd_15 rfl (fun a11 hr10 => ?_) (fun hr10 => ?_)
  · have h := h.2 a11 hr10
    refine ag_aload_n dX1_examineAnd_22 rfl (Or.inr ⟨_, rfl⟩) ?_
    refine ag_aload_n dX1_examineAnd_23 rfl (va_rf_or _) ?_
    refine cr_stk (st' := [.ref a1, .ref t]) (by rw [hr2]; rfl) ?_
    refine cr_get (v := va_rf (cR C4 a1 5)) dX1_examineAnd_24 fw_1_160 hT8 rfl ?_
    refine ag_aload dX1_examineAnd_27 rfl (va_rf_or _) ?_
    refine cr_stk (st' := [.ref a11, va_rf (cR C4 a1 5), .ref t]) (by rw [hr10]; rfl) ?_
    obtain ⟨hT12, h⟩ := h
    refine cr_get (v := va_rf (cR C4 a11 2)) dX1_examineAnd_29 fw_1_126 hT12 rfl ?_
    refine ag_iload dX1_examineAnd_32 rfl ?_
    refine cr_callV (as := [va_rf (cR C4 a1 5), va_rf (cR C4 a11 2), .int p3]) (rest := []) dX1_examineAnd_34 me_X1_examine mi_X1_examine lk_1_51 hT9 rfl rfl (Nat.le_of_ble_eq_true rfl) ?_
    refine cM.mono h ?_
    rintro v C13 ⟨z14, rfl, hL15, h⟩
    have hT16 := cT.le (C := C4) hT8 hL15
    have hT17 := cT.le (C := C4) hT9 hL15
    have hT18 := cT.le (C := C4) hT12 hL15
    show cG _ _ _ _ _ _ [va_rf z14] _
    refine ag_drop 0 ?_
    refine ag_drop 1 ?_
    refine ag_drop 2 ?_
    refine ag_drop 4 ?_
    exact h
  · have h := h.1 hr10
    refine ag_null dX1_examineAnd_18 ?_
    refine ag_goto (tgt := 37) dX1_examineAnd_19 rfl ?_
    refine ag_drop 0 ?_
    refine ag_drop 1 ?_
    refine ag_drop 2 ?_
    refine ag_drop 4 ?_
    exact h
set_option maxRecDepth 20000 in
set_option maxHeartbeats 4000000 in
theorem w_X1_examineAnd_37 {c : cX} {d : Nat} {C : cS} {K : Option Value → cS → Prop} (v3 : Option Nat) (v5 : Option Nat) (s0 : Option Nat) (h : (v5 = none → (K (some (.int 0)) C)) ∧ (∀ a2 : Nat, v5 = some a2 → ((s0 = none → (K (some (.int 0)) C)) ∧ (∀ a4 : Nat, s0 = some a4 → (cT C a4 2 4 ∧ (cT C a2 2 4 ∧ (∃ a7 : Nat, (cR C a2 3) = some a7 ∧ (cT C a7 8 2 ∧ (((cI C a7 1) = 0 → (cG c eX1_examineAnd (d + 1) (cQ K) 73 [none, none, none, some (va_rf v3), none, some (va_rf v5), some (va_rf s0)] [.int 4, .int (cI C a4 0), va_rf v3] C)) ∧ (¬ (cI C a7 1) = 0 → (cG c eX1_examineAnd (d + 1) (cQ K) 73 [none, none, none, some (va_rf v3), none, some (va_rf v5), some (va_rf s0)] [.int 0, .int (cI C a4 0), va_rf v3] C))))))))))) : cG c eX1_examineAnd (d + 1) (cQ K) 37 [none, none, none, some (va_rf v3), none, some (va_rf v5), none] [va_rf s0] C := by
  refine ag_astore (lv2 := [none, none, none, some (va_rf v3), none, some (va_rf v5), some (va_rf s0)]) dX1_examineAnd_37 (Nat.le_of_ble_eq_true rfl) (by simp [am_st1, am_kill, va_rf_cat] <;> rfl) (va_rf_or _) ?_
  refine ag_aload dX1_examineAnd_39 rfl (va_rf_or _) ?_
  refine cr_ifnull (tgt := 49) dX1_examineAnd_41 rfl (fun hr1 => ?_) (fun a2 hr1 => ?_)
  · have h := h.1 hr1
    refine ag_iconst (v := 0) dX1_examineAnd_49 rfl ?_
    exact ag_ret (v := some (.int 0)) dX1_examineAnd_50 ⟨_, rfl, rB_n (Or.inl rfl)⟩ ⟨_, rfl, _, rfl, h⟩ rfl
  · have h := h.2 a2 hr1
    refine ag_aload dX1_examineAnd_44 rfl (va_rf_or _) ?_
    refine cr_ifnonnull (tgt := 51) dX1_examineAnd_46 rfl (fun a4 hr3 => ?_) (fun hr3 => ?_)
    · have h := h.2 a4 hr3
      refine ag_aload_n dX1_examineAnd_51 rfl (va_rf_or _) ?_
      refine ag_aload dX1_examineAnd_52 rfl (va_rf_or _) ?_
      refine cr_stk (st' := [.ref a4, va_rf v3]) (by rw [hr3]; rfl) ?_
      obtain ⟨hT5, h⟩ := h
      refine cr_get (v := .int (cI C a4 0)) dX1_examineAnd_54 fw_1_147 hT5 rfl ?_
      refine ag_aload dX1_examineAnd_57 rfl (va_rf_or _) ?_
      refine cr_stk (st' := [.ref a2, .int (cI C a4 0), va_rf v3]) (by rw [hr1]; rfl) ?_
      obtain ⟨hT6, h⟩ := h
      refine cr_get (v := va_rf (cR C a2 3)) dX1_examineAnd_59 fw_1_133 hT6 rfl ?_
      obtain ⟨a7, hr8, h⟩ := h
      refine cr_stk (st' := [.ref a7, .int (cI C a4 0), va_rf v3]) (by rw [hr8]; rfl) ?_
      obtain ⟨hT9, h⟩ := h
      refine cr_get (v := .int (cI C a7 1)) dX1_examineAnd_62 fw_1_60 hT9 rfl ?_
      refine ag_if_eq (tgt := 72) dX1_examineAnd_65 rfl (fun hc10 => ?_) (fun hc10 => ?_)
      · have h := h.1 hc10
        refine ag_iconst (v := 4) dX1_examineAnd_72 rfl ?_
        exact h
      · have h := h.2 hc10
        refine ag_iconst (v := 0) dX1_examineAnd_68 rfl ?_
        refine ag_goto (tgt := 73) dX1_examineAnd_69 rfl ?_
        exact h
    · have h := h.1 hr3
      refine ag_iconst (v := 0) dX1_examineAnd_49 rfl ?_
      exact ag_ret (v := some (.int 0)) dX1_examineAnd_50 ⟨_, rfl, rB_n (Or.inl rfl)⟩ ⟨_, rfl, _, rfl, h⟩ rfl
set_option maxRecDepth 20000 in
set_option maxHeartbeats 4000000 in
theorem w_X1_examineAnd_73 {c : cX} {d : Nat} {C : cS} {K : Option Value → cS → Prop} (v3 : Option Nat) (v5 : Option Nat) (v6 : Option Nat) (s0 : Int32) (s1 : Int32) (s2 : Option Nat) (h : ∃ a1 : Nat, s2 = some a1 ∧ (cT C a1 2 4 ∧ (∃ a4 : Nat, v3 = some a4 ∧ (cT C a4 2 4 ∧ (∃ a7 : Nat, v6 = some a7 ∧ (cT C a7 2 4 ∧ (∃ a10 : Nat, (cR C a4 2) = some a10 ∧ (cT C a10 8 2 ∧ (cM c d eX8_copy (.ref a10 :: [va_rf (cR C a7 2)]) (csi (csi C a1 0 (s1 ||| s0)) a4 1 (-1)) (fun v C12 => v = none ∧ cle (csi (csi C a1 0 (s1 ||| s0)) a4 1 (-1)) C12 ∧ (∃ a20 : Nat, (cR C12 a4 3) = some a20 ∧ (cT C12 a20 8 2 ∧ (cM c d eX8_copy (.ref a20 :: [va_rf (cR C12 a7 3)]) C12 (fun v C22 => v = none ∧ cle C12 C22 ∧ (∃ a31 : Nat, v5 = some a31 ∧ (cT C22 a31 2 4 ∧ (∃ a34 : Nat, (cR C22 a4 3) = some a34 ∧ (cT C22 a34 8 2 ∧ (cM c d eX8_allowEither (.ref a34 :: [va_rf (cR C22 a31 3)]) C22 (fun v C36 => v = none ∧ cle C22 C36 ∧ (K (some (.int 1)) C36))))))))))))))))))))) : cG c eX1_examineAnd (d + 1) (cQ K) 73 [none, none, none, some (va_rf v3), none, some (va_rf v5), some (va_rf v6)] [.int s0, .int s1, va_rf s2] C := by
  refine ag_ior dX1_examineAnd_73 rfl ?_
  obtain ⟨a1, hr2, h⟩ := h
  refine cr_stk (st' := [.int (s1 ||| s0), .ref a1]) (by rw [hr2]; rfl) ?_
  obtain ⟨hT3, h⟩ := h
  refine cr_pi (C2 := (csi C a1 0 (s1 ||| s0))) dX1_examineAnd_74 pw_1_147 rfl hT3 (fun _ => ⟨rfl, rfl⟩) rfl ?_
  refine ag_aload_n dX1_examineAnd_77 rfl (va_rf_or _) ?_
  refine ag_iconst (v := (-1)) dX1_examineAnd_78 rfl ?_
  obtain ⟨a4, hr5, h⟩ := h
  refine cr_stk (st' := [.int (-1), .ref a4]) (by rw [hr5]; rfl) ?_
  obtain ⟨hT6, h⟩ := h
  refine cr_pi (C2 := (csi (csi C a1 0 (s1 ||| s0)) a4 1 (-1))) dX1_examineAnd_79 pw_1_150 rfl hT6 (fun _ => ⟨rfl, rfl⟩) rfl ?_
  refine ag_aload_n dX1_examineAnd_82 rfl (va_rf_or _) ?_
  refine cr_stk (st' := [.ref a4]) (by rw [hr5]; rfl) ?_
  refine cr_get (v := va_rf (cR C a4 2)) dX1_examineAnd_83 fw_1_126 hT6 rfl ?_
  refine ag_aload dX1_examineAnd_86 rfl (va_rf_or _) ?_
  obtain ⟨a7, hr8, h⟩ := h
  refine cr_stk (st' := [.ref a7, va_rf (cR C a4 2)]) (by rw [hr8]; rfl) ?_
  obtain ⟨hT9, h⟩ := h
  refine cr_get (v := va_rf (cR C a7 2)) dX1_examineAnd_88 fw_1_126 hT9 rfl ?_
  obtain ⟨a10, hr11, h⟩ := h
  refine cr_stk (st' := [va_rf (cR C a7 2), .ref a10]) (by rw [hr11]; rfl) ?_
  obtain ⟨hT15, h⟩ := h
  refine cr_callV (as := [va_rf (cR C a7 2)]) (rest := []) dX1_examineAnd_91 me_X8_copy mi_X8_copy lk_1_153 hT15 rfl rfl (Nat.le_of_ble_eq_true rfl) ?_
  refine cM.mono h ?_
  rintro v C12 ⟨rfl, hL14, h⟩
  have hT16 := cT.le (C := (csi (csi C a1 0 (s1 ||| s0)) a4 1 (-1))) hT3 hL14
  have hT17 := cT.le (C := (csi (csi C a1 0 (s1 ||| s0)) a4 1 (-1))) hT6 hL14
  have hT18 := cT.le (C := (csi (csi C a1 0 (s1 ||| s0)) a4 1 (-1))) hT9 hL14
  have hT19 := cT.le (C := (csi (csi C a1 0 (s1 ||| s0)) a4 1 (-1))) hT15 hL14
  show cG _ _ _ _ _ _ [] _
  refine ag_aload_n dX1_examineAnd_94 rfl (va_rf_or _) ?_
  refine cr_stk (st' := [.ref a4]) (by rw [hr5]; rfl) ?_
  refine cr_get (v := va_rf (cR C12 a4 3)) dX1_examineAnd_95 fw_1_133 hT17 rfl ?_
  refine ag_aload dX1_examineAnd_98 rfl (va_rf_or _) ?_
  refine cr_stk (st' := [.ref a7, va_rf (cR C12 a4 3)]) (by rw [hr8]; rfl) ?_
  refine cr_get (v := va_rf (cR C12 a7 3)) dX1_examineAnd_100 fw_1_133 hT18 rfl ?_
  obtain ⟨a20, hr21, h⟩ := h
  refine cr_stk (st' := [va_rf (cR C12 a7 3), .ref a20]) (by rw [hr21]; rfl) ?_
  obtain ⟨hT25, h⟩ := h
  refine cr_callV (as := [va_rf (cR C12 a7 3)]) (rest := []) dX1_examineAnd_103 me_X8_copy mi_X8_copy lk_1_153 hT25 rfl rfl (Nat.le_of_ble_eq_true rfl) ?_
  refine cM.mono h ?_
  rintro v C22 ⟨rfl, hL24, h⟩
  have hT26 := cT.le (C := C12) hT16 hL24
  have hT27 := cT.le (C := C12) hT17 hL24
  have hT28 := cT.le (C := C12) hT18 hL24
  have hT29 := cT.le (C := C12) hT19 hL24
  have hT30 := cT.le (C := C12) hT25 hL24
  show cG _ _ _ _ _ _ [] _
  refine ag_aload_n dX1_examineAnd_106 rfl (va_rf_or _) ?_
  refine cr_stk (st' := [.ref a4]) (by rw [hr5]; rfl) ?_
  refine cr_get (v := va_rf (cR C22 a4 3)) dX1_examineAnd_107 fw_1_133 hT27 rfl ?_
  refine ag_aload dX1_examineAnd_110 rfl (va_rf_or _) ?_
  obtain ⟨a31, hr32, h⟩ := h
  refine cr_stk (st' := [.ref a31, va_rf (cR C22 a4 3)]) (by rw [hr32]; rfl) ?_
  obtain ⟨hT33, h⟩ := h
  refine cr_get (v := va_rf (cR C22 a31 3)) dX1_examineAnd_112 fw_1_133 hT33 rfl ?_
  obtain ⟨a34, hr35, h⟩ := h
  refine cr_stk (st' := [va_rf (cR C22 a31 3), .ref a34]) (by rw [hr35]; rfl) ?_
  obtain ⟨hT39, h⟩ := h
  refine cr_callV (as := [va_rf (cR C22 a31 3)]) (rest := []) dX1_examineAnd_115 me_X8_allowEither mi_X8_allowEither lk_1_166 hT39 rfl rfl (Nat.le_of_ble_eq_true rfl) ?_
  refine cM.mono h ?_
  rintro v C36 ⟨rfl, hL38, h⟩
  have hT40 := cT.le (C := C22) hT26 hL38
  have hT41 := cT.le (C := C22) hT27 hL38
  have hT42 := cT.le (C := C22) hT28 hL38
  have hT43 := cT.le (C := C22) hT29 hL38
  have hT44 := cT.le (C := C22) hT30 hL38
  have hT45 := cT.le (C := C22) hT33 hL38
  have hT46 := cT.le (C := C22) hT39 hL38
  show cG _ _ _ _ _ _ [] _
  refine ag_iconst (v := 1) dX1_examineAnd_118 rfl ?_
  exact ag_ret (v := some (.int 1)) dX1_examineAnd_119 ⟨_, rfl, rB_n (Or.inr rfl)⟩ ⟨_, rfl, _, rfl, h⟩ rfl
theorem dX1_examineOr_0 : decode cX1_examineOr 0 = .ok (.aload_n 0, 1) := by decide +kernel
theorem dX1_examineOr_1 : decode cX1_examineOr 1 = .ok (.aload_n 1, 1) := by decide +kernel
theorem dX1_examineOr_2 : decode cX1_examineOr 2 = .ok (.getfield 140, 3) := by decide +kernel
theorem dX1_examineOr_5 : decode cX1_examineOr 5 = .ok (.aload_n 2, 1) := by decide +kernel
theorem dX1_examineOr_6 : decode cX1_examineOr 6 = .ok (.iload 4, 2) := by decide +kernel
theorem dX1_examineOr_8 : decode cX1_examineOr 8 = .ok (.invokevirtual 51, 3) := by decide +kernel
theorem dX1_examineOr_11 : decode cX1_examineOr 11 = .ok (.astore 5, 2) := by decide +kernel
theorem dX1_examineOr_13 : decode cX1_examineOr 13 = .ok (.aload 5, 2) := by decide +kernel
theorem dX1_examineOr_15 : decode cX1_examineOr 15 = .ok (.ifnonnull 7, 3) := by decide +kernel
theorem dX1_examineOr_18 : decode cX1_examineOr 18 = .ok (.aconst_null, 1) := by decide +kernel
theorem dX1_examineOr_19 : decode cX1_examineOr 19 = .ok (.goto 18, 3) := by decide +kernel
theorem dX1_examineOr_22 : decode cX1_examineOr 22 = .ok (.aload_n 0, 1) := by decide +kernel
theorem dX1_examineOr_23 : decode cX1_examineOr 23 = .ok (.aload_n 1, 1) := by decide +kernel
theorem dX1_examineOr_24 : decode cX1_examineOr 24 = .ok (.getfield 160, 3) := by decide +kernel
theorem dX1_examineOr_27 : decode cX1_examineOr 27 = .ok (.aload 5, 2) := by decide +kernel
theorem dX1_examineOr_29 : decode cX1_examineOr 29 = .ok (.getfield 133, 3) := by decide +kernel
theorem dX1_examineOr_32 : decode cX1_examineOr 32 = .ok (.iload 4, 2) := by decide +kernel
theorem dX1_examineOr_34 : decode cX1_examineOr 34 = .ok (.invokevirtual 51, 3) := by decide +kernel
theorem dX1_examineOr_37 : decode cX1_examineOr 37 = .ok (.astore 6, 2) := by decide +kernel
theorem dX1_examineOr_39 : decode cX1_examineOr 39 = .ok (.aload 5, 2) := by decide +kernel
theorem dX1_examineOr_41 : decode cX1_examineOr 41 = .ok (.ifnull 8, 3) := by decide +kernel
theorem dX1_examineOr_44 : decode cX1_examineOr 44 = .ok (.aload 6, 2) := by decide +kernel
theorem dX1_examineOr_46 : decode cX1_examineOr 46 = .ok (.ifnonnull 5, 3) := by decide +kernel
theorem dX1_examineOr_49 : decode cX1_examineOr 49 = .ok (.iconst 0, 1) := by decide +kernel
theorem dX1_examineOr_50 : decode cX1_examineOr 50 = .ok (.ireturn, 1) := by decide +kernel
theorem dX1_examineOr_51 : decode cX1_examineOr 51 = .ok (.aload_n 3, 1) := by decide +kernel
theorem dX1_examineOr_52 : decode cX1_examineOr 52 = .ok (.aload 5, 2) := by decide +kernel
theorem dX1_examineOr_54 : decode cX1_examineOr 54 = .ok (.getfield 147, 3) := by decide +kernel
theorem dX1_examineOr_57 : decode cX1_examineOr 57 = .ok (.bipush 27, 2) := by decide +kernel
theorem dX1_examineOr_59 : decode cX1_examineOr 59 = .ok (.iand, 1) := by decide +kernel
theorem dX1_examineOr_60 : decode cX1_examineOr 60 = .ok (.aload 6, 2) := by decide +kernel
theorem dX1_examineOr_62 : decode cX1_examineOr 62 = .ok (.getfield 147, 3) := by decide +kernel
theorem dX1_examineOr_65 : decode cX1_examineOr 65 = .ok (.ior, 1) := by decide +kernel
theorem dX1_examineOr_66 : decode cX1_examineOr 66 = .ok (.putfield 147, 3) := by decide +kernel
theorem dX1_examineOr_69 : decode cX1_examineOr 69 = .ok (.aload_n 3, 1) := by decide +kernel
theorem dX1_examineOr_70 : decode cX1_examineOr 70 = .ok (.iconst (-1), 1) := by decide +kernel
theorem dX1_examineOr_71 : decode cX1_examineOr 71 = .ok (.putfield 150, 3) := by decide +kernel
theorem dX1_examineOr_74 : decode cX1_examineOr 74 = .ok (.aload_n 3, 1) := by decide +kernel
theorem dX1_examineOr_75 : decode cX1_examineOr 75 = .ok (.getfield 126, 3) := by decide +kernel
theorem dX1_examineOr_78 : decode cX1_examineOr 78 = .ok (.aload 5, 2) := by decide +kernel
theorem dX1_examineOr_80 : decode cX1_examineOr 80 = .ok (.getfield 126, 3) := by decide +kernel
theorem dX1_examineOr_83 : decode cX1_examineOr 83 = .ok (.invokevirtual 153, 3) := by decide +kernel
theorem dX1_examineOr_86 : decode cX1_examineOr 86 = .ok (.aload_n 3, 1) := by decide +kernel
theorem dX1_examineOr_87 : decode cX1_examineOr 87 = .ok (.getfield 126, 3) := by decide +kernel
theorem dX1_examineOr_90 : decode cX1_examineOr 90 = .ok (.aload 6, 2) := by decide +kernel
theorem dX1_examineOr_92 : decode cX1_examineOr 92 = .ok (.getfield 126, 3) := by decide +kernel
theorem dX1_examineOr_95 : decode cX1_examineOr 95 = .ok (.invokevirtual 166, 3) := by decide +kernel
theorem dX1_examineOr_98 : decode cX1_examineOr 98 = .ok (.aload_n 3, 1) := by decide +kernel
theorem dX1_examineOr_99 : decode cX1_examineOr 99 = .ok (.getfield 133, 3) := by decide +kernel
theorem dX1_examineOr_102 : decode cX1_examineOr 102 = .ok (.aload 6, 2) := by decide +kernel
theorem dX1_examineOr_104 : decode cX1_examineOr 104 = .ok (.getfield 133, 3) := by decide +kernel
theorem dX1_examineOr_107 : decode cX1_examineOr 107 = .ok (.invokevirtual 153, 3) := by decide +kernel
theorem dX1_examineOr_110 : decode cX1_examineOr 110 = .ok (.iconst 1, 1) := by decide +kernel
theorem dX1_examineOr_111 : decode cX1_examineOr 111 = .ok (.ireturn, 1) := by decide +kernel
set_option maxRecDepth 20000 in
set_option maxHeartbeats 4000000 in
theorem w_X1_examineOr {c : cX} {d : Nat} {C : cS} {K : Option Value → cS → Prop} (t : Nat) (p0 : Option Nat) (p1 : Option Nat) (p2 : Option Nat) (p3 : Int32) (h : ∃ a1 : Nat, p0 = some a1 ∧ (cT C a1 5 7 ∧ (cT C t 1 7 ∧ (cM c d eX1_examine (.ref t :: [va_rf (cR C a1 4), va_rf p1, .int p3]) C (fun v C4 => ∃ z5 : Option Nat, v = some (va_rf z5) ∧ cle C C4 ∧ ((z5 = none → (cG c eX1_examineOr (d + 1) (cQ K) 37 [none, none, none, some (va_rf p2), none, some (va_rf z5), none] [va_rf none] C4)) ∧ (∀ a11 : Nat, z5 = some a11 → (cT C4 a11 2 4 ∧ (cM c d eX1_examine (.ref t :: [va_rf (cR C4 a1 5), va_rf (cR C4 a11 3), .int p3]) C4 (fun v C13 => ∃ z14 : Option Nat, v = some (va_rf z14) ∧ cle C4 C13 ∧ (cG c eX1_examineOr (d + 1) (cQ K) 37 [none, none, none, some (va_rf p2), none, some (va_rf z5), none] [va_rf z14] C13))))))))))) : cM c (d + 1) eX1_examineOr [.ref t, va_rf p0, va_rf p1, va_rf p2, .int p3] C K := by
  refine cM.of2 (lv := [some (.ref t), some (va_rf p0), some (va_rf p1), some (va_rf p2), some (.int p3), none, none]) (by decide) (by simp only [am_sl_i, am_sl_r, am_sl_l, am_sl_o, am_sl_n]; exact Nat.le_of_ble_eq_true rfl) (by simp only [am_en, am_sl_i, am_sl_r, am_sl_l, am_sl_o, am_sl_n]; rfl) ?_
  refine ag_aload_n dX1_examineOr_0 rfl (Or.inr ⟨_, rfl⟩) ?_
  refine ag_aload_n dX1_examineOr_1 rfl (va_rf_or _) ?_
  obtain ⟨a1, hr2, h⟩ := h
  refine cr_stk (st' := [.ref a1, .ref t]) (by rw [hr2]; rfl) ?_
  obtain ⟨hT3, h⟩ := h
  refine cr_get (v := va_rf (cR C a1 4)) dX1_examineOr_2 fw_1_140 hT3 rfl ?_
  refine ag_aload_n dX1_examineOr_5 rfl (va_rf_or _) ?_
  refine ag_iload dX1_examineOr_6 rfl ?_
  obtain ⟨hT7, h⟩ := h
  refine cr_callV (as := [va_rf (cR C a1 4), va_rf p1, .int p3]) (rest := []) dX1_examineOr_8 me_X1_examine mi_X1_examine lk_1_51 hT7 rfl rfl (Nat.le_of_ble_eq_true rfl) ?_
  refine cM.mono h ?_
  rintro v C4 ⟨z5, rfl, hL6, h⟩
  have hT8 := cT.le (C := C) hT3 hL6
  have hT9 := cT.le (C := C) hT7 hL6
  show cG _ _ _ _ _ _ [va_rf z5] _
  refine ag_astore (lv2 := [some (.ref t), some (va_rf p0), some (va_rf p1), some (va_rf p2), some (.int p3), some (va_rf z5), none]) dX1_examineOr_11 (Nat.le_of_ble_eq_true rfl) rfl (va_rf_or _) ?_
  refine ag_aload dX1_examineOr_13 rfl (va_rf_or _) ?_
  refine cr_ifnonnull (tgt := 22) dX1_examineOr_15 rfl (fun a11 hr10 => ?_) (fun hr10 => ?_)
  · have h := h.2 a11 hr10
    refine ag_aload_n dX1_examineOr_22 rfl (Or.inr ⟨_, rfl⟩) ?_
    refine ag_aload_n dX1_examineOr_23 rfl (va_rf_or _) ?_
    refine cr_stk (st' := [.ref a1, .ref t]) (by rw [hr2]; rfl) ?_
    refine cr_get (v := va_rf (cR C4 a1 5)) dX1_examineOr_24 fw_1_160 hT8 rfl ?_
    refine ag_aload dX1_examineOr_27 rfl (va_rf_or _) ?_
    refine cr_stk (st' := [.ref a11, va_rf (cR C4 a1 5), .ref t]) (by rw [hr10]; rfl) ?_
    obtain ⟨hT12, h⟩ := h
    refine cr_get (v := va_rf (cR C4 a11 3)) dX1_examineOr_29 fw_1_133 hT12 rfl ?_
    refine ag_iload dX1_examineOr_32 rfl ?_
    refine cr_callV (as := [va_rf (cR C4 a1 5), va_rf (cR C4 a11 3), .int p3]) (rest := []) dX1_examineOr_34 me_X1_examine mi_X1_examine lk_1_51 hT9 rfl rfl (Nat.le_of_ble_eq_true rfl) ?_
    refine cM.mono h ?_
    rintro v C13 ⟨z14, rfl, hL15, h⟩
    have hT16 := cT.le (C := C4) hT8 hL15
    have hT17 := cT.le (C := C4) hT9 hL15
    have hT18 := cT.le (C := C4) hT12 hL15
    show cG _ _ _ _ _ _ [va_rf z14] _
    refine ag_drop 0 ?_
    refine ag_drop 1 ?_
    refine ag_drop 2 ?_
    refine ag_drop 4 ?_
    exact h
  · have h := h.1 hr10
    refine ag_null dX1_examineOr_18 ?_
    refine ag_goto (tgt := 37) dX1_examineOr_19 rfl ?_
    refine ag_drop 0 ?_
    refine ag_drop 1 ?_
    refine ag_drop 2 ?_
    refine ag_drop 4 ?_
    exact h
set_option maxRecDepth 20000 in
set_option maxHeartbeats 4000000 in
theorem w_X1_examineOr_37 {c : cX} {d : Nat} {C : cS} {K : Option Value → cS → Prop} (v3 : Option Nat) (v5 : Option Nat) (s0 : Option Nat) (h : (v5 = none → (K (some (.int 0)) C)) ∧ (∀ a2 : Nat, v5 = some a2 → ((s0 = none → (K (some (.int 0)) C)) ∧ (∀ a4 : Nat, s0 = some a4 → (cT C a2 2 4 ∧ (cT C a4 2 4 ∧ (∃ a7 : Nat, v3 = some a7 ∧ (cT C a7 2 4 ∧ (∃ a10 : Nat, (cR C a7 2) = some a10 ∧ (cT C a10 8 2 ∧ (cM c d eX8_copy (.ref a10 :: [va_rf (cR C a2 2)]) (csi (csi C a7 0 (((cI C a2 0) &&& 27) ||| (cI C a4 0))) a7 1 (-1)) (fun v C12 => v = none ∧ cle (csi (csi C a7 0 (((cI C a2 0) &&& 27) ||| (cI C a4 0))) a7 1 (-1)) C12 ∧ (∃ a20 : Nat, (cR C12 a7 2) = some a20 ∧ (cT C12 a20 8 2 ∧ (cM c d eX8_allowEither (.ref a20 :: [va_rf (cR C12 a4 2)]) C12 (fun v C22 => v = none ∧ cle C12 C22 ∧ (∃ a31 : Nat, (cR C22 a7 3) = some a31 ∧ (cT C22 a31 8 2 ∧ (cM c d eX8_copy (.ref a31 :: [va_rf (cR C22 a4 3)]) C22 (fun v C33 => v = none ∧ cle C22 C33 ∧ (K (some (.int 1)) C33))))))))))))))))))))) : cG c eX1_examineOr (d + 1) (cQ K) 37 [none, none, none, some (va_rf v3), none, some (va_rf v5), none] [va_rf s0] C := by
  refine ag_astore (lv2 := [none, none, none, some (va_rf v3), none, some (va_rf v5), some (va_rf s0)]) dX1_examineOr_37 (Nat.le_of_ble_eq_true rfl) (by simp [am_st1, am_kill, va_rf_cat] <;> rfl) (va_rf_or _) ?_
  refine ag_aload dX1_examineOr_39 rfl (va_rf_or _) ?_
  refine cr_ifnull (tgt := 49) dX1_examineOr_41 rfl (fun hr1 => ?_) (fun a2 hr1 => ?_)
  · have h := h.1 hr1
    refine ag_iconst (v := 0) dX1_examineOr_49 rfl ?_
    exact ag_ret (v := some (.int 0)) dX1_examineOr_50 ⟨_, rfl, rB_n (Or.inl rfl)⟩ ⟨_, rfl, _, rfl, h⟩ rfl
  · have h := h.2 a2 hr1
    refine ag_aload dX1_examineOr_44 rfl (va_rf_or _) ?_
    refine cr_ifnonnull (tgt := 51) dX1_examineOr_46 rfl (fun a4 hr3 => ?_) (fun hr3 => ?_)
    · have h := h.2 a4 hr3
      refine ag_aload_n dX1_examineOr_51 rfl (va_rf_or _) ?_
      refine ag_aload dX1_examineOr_52 rfl (va_rf_or _) ?_
      refine cr_stk (st' := [.ref a2, va_rf v3]) (by rw [hr1]; rfl) ?_
      obtain ⟨hT5, h⟩ := h
      refine cr_get (v := .int (cI C a2 0)) dX1_examineOr_54 fw_1_147 hT5 rfl ?_
      refine ag_bipush (v := 27) dX1_examineOr_57 (by decide) ?_
      refine ag_iand dX1_examineOr_59 rfl ?_
      refine ag_aload dX1_examineOr_60 rfl (va_rf_or _) ?_
      refine cr_stk (st' := [.ref a4, .int ((cI C a2 0) &&& 27), va_rf v3]) (by rw [hr3]; rfl) ?_
      obtain ⟨hT6, h⟩ := h
      refine cr_get (v := .int (cI C a4 0)) dX1_examineOr_62 fw_1_147 hT6 rfl ?_
      refine ag_ior dX1_examineOr_65 rfl ?_
      obtain ⟨a7, hr8, h⟩ := h
      refine cr_stk (st' := [.int (((cI C a2 0) &&& 27) ||| (cI C a4 0)), .ref a7]) (by rw [hr8]; rfl) ?_
      obtain ⟨hT9, h⟩ := h
      refine cr_pi (C2 := (csi C a7 0 (((cI C a2 0) &&& 27) ||| (cI C a4 0)))) dX1_examineOr_66 pw_1_147 rfl hT9 (fun _ => ⟨rfl, rfl⟩) rfl ?_
      refine ag_aload_n dX1_examineOr_69 rfl (va_rf_or _) ?_
      refine ag_iconst (v := (-1)) dX1_examineOr_70 rfl ?_
      refine cr_stk (st' := [.int (-1), .ref a7]) (by rw [hr8]; rfl) ?_
      refine cr_pi (C2 := (csi (csi C a7 0 (((cI C a2 0) &&& 27) ||| (cI C a4 0))) a7 1 (-1))) dX1_examineOr_71 pw_1_150 rfl hT9 (fun _ => ⟨rfl, rfl⟩) rfl ?_
      refine ag_aload_n dX1_examineOr_74 rfl (va_rf_or _) ?_
      refine cr_stk (st' := [.ref a7]) (by rw [hr8]; rfl) ?_
      refine cr_get (v := va_rf (cR C a7 2)) dX1_examineOr_75 fw_1_126 hT9 rfl ?_
      refine ag_aload dX1_examineOr_78 rfl (va_rf_or _) ?_
      refine cr_stk (st' := [.ref a2, va_rf (cR C a7 2)]) (by rw [hr1]; rfl) ?_
      refine cr_get (v := va_rf (cR C a2 2)) dX1_examineOr_80 fw_1_126 hT5 rfl ?_
      obtain ⟨a10, hr11, h⟩ := h
      refine cr_stk (st' := [va_rf (cR C a2 2), .ref a10]) (by rw [hr11]; rfl) ?_
      obtain ⟨hT15, h⟩ := h
      refine cr_callV (as := [va_rf (cR C a2 2)]) (rest := []) dX1_examineOr_83 me_X8_copy mi_X8_copy lk_1_153 hT15 rfl rfl (Nat.le_of_ble_eq_true rfl) ?_
      refine cM.mono h ?_
      rintro v C12 ⟨rfl, hL14, h⟩
      have hT16 := cT.le (C := (csi (csi C a7 0 (((cI C a2 0) &&& 27) ||| (cI C a4 0))) a7 1 (-1))) hT5 hL14
      have hT17 := cT.le (C := (csi (csi C a7 0 (((cI C a2 0) &&& 27) ||| (cI C a4 0))) a7 1 (-1))) hT6 hL14
      have hT18 := cT.le (C := (csi (csi C a7 0 (((cI C a2 0) &&& 27) ||| (cI C a4 0))) a7 1 (-1))) hT9 hL14
      have hT19 := cT.le (C := (csi (csi C a7 0 (((cI C a2 0) &&& 27) ||| (cI C a4 0))) a7 1 (-1))) hT15 hL14
      show cG _ _ _ _ _ _ [] _
      refine ag_aload_n dX1_examineOr_86 rfl (va_rf_or _) ?_
      refine cr_stk (st' := [.ref a7]) (by rw [hr8]; rfl) ?_
      refine cr_get (v := va_rf (cR C12 a7 2)) dX1_examineOr_87 fw_1_126 hT18 rfl ?_
      refine ag_aload dX1_examineOr_90 rfl (va_rf_or _) ?_
      refine cr_stk (st' := [.ref a4, va_rf (cR C12 a7 2)]) (by rw [hr3]; rfl) ?_
      refine cr_get (v := va_rf (cR C12 a4 2)) dX1_examineOr_92 fw_1_126 hT17 rfl ?_
      obtain ⟨a20, hr21, h⟩ := h
      refine cr_stk (st' := [va_rf (cR C12 a4 2), .ref a20]) (by rw [hr21]; rfl) ?_
      obtain ⟨hT25, h⟩ := h
      refine cr_callV (as := [va_rf (cR C12 a4 2)]) (rest := []) dX1_examineOr_95 me_X8_allowEither mi_X8_allowEither lk_1_166 hT25 rfl rfl (Nat.le_of_ble_eq_true rfl) ?_
      refine cM.mono h ?_
      rintro v C22 ⟨rfl, hL24, h⟩
      have hT26 := cT.le (C := C12) hT16 hL24
      have hT27 := cT.le (C := C12) hT17 hL24
      have hT28 := cT.le (C := C12) hT18 hL24
      have hT29 := cT.le (C := C12) hT19 hL24
      have hT30 := cT.le (C := C12) hT25 hL24
      show cG _ _ _ _ _ _ [] _
      refine ag_aload_n dX1_examineOr_98 rfl (va_rf_or _) ?_
      refine cr_stk (st' := [.ref a7]) (by rw [hr8]; rfl) ?_
      refine cr_get (v := va_rf (cR C22 a7 3)) dX1_examineOr_99 fw_1_133 hT28 rfl ?_
      refine ag_aload dX1_examineOr_102 rfl (va_rf_or _) ?_
      refine cr_stk (st' := [.ref a4, va_rf (cR C22 a7 3)]) (by rw [hr3]; rfl) ?_
      refine cr_get (v := va_rf (cR C22 a4 3)) dX1_examineOr_104 fw_1_133 hT27 rfl ?_
      obtain ⟨a31, hr32, h⟩ := h
      refine cr_stk (st' := [va_rf (cR C22 a4 3), .ref a31]) (by rw [hr32]; rfl) ?_
      obtain ⟨hT36, h⟩ := h
      refine cr_callV (as := [va_rf (cR C22 a4 3)]) (rest := []) dX1_examineOr_107 me_X8_copy mi_X8_copy lk_1_153 hT36 rfl rfl (Nat.le_of_ble_eq_true rfl) ?_
      refine cM.mono h ?_
      rintro v C33 ⟨rfl, hL35, h⟩
      have hT37 := cT.le (C := C22) hT26 hL35
      have hT38 := cT.le (C := C22) hT27 hL35
      have hT39 := cT.le (C := C22) hT28 hL35
      have hT40 := cT.le (C := C22) hT29 hL35
      have hT41 := cT.le (C := C22) hT30 hL35
      have hT42 := cT.le (C := C22) hT36 hL35
      show cG _ _ _ _ _ _ [] _
      refine ag_iconst (v := 1) dX1_examineOr_110 rfl ?_
      exact ag_ret (v := some (.int 1)) dX1_examineOr_111 ⟨_, rfl, rB_n (Or.inr rfl)⟩ ⟨_, rfl, _, rfl, h⟩ rfl
    · have h := h.1 hr3
      refine ag_iconst (v := 0) dX1_examineOr_49 rfl ?_
      exact ag_ret (v := some (.int 0)) dX1_examineOr_50 ⟨_, rfl, rB_n (Or.inl rfl)⟩ ⟨_, rfl, _, rfl, h⟩ rfl
theorem dX1_examineBinding_0 : decode cX1_examineBinding 0 = .ok (.aload_n 0, 1) := by decide +kernel
theorem dX1_examineBinding_1 : decode cX1_examineBinding 1 = .ok (.aload_n 1, 1) := by decide +kernel
theorem dX1_examineBinding_2 : decode cX1_examineBinding 2 = .ok (.getfield 140, 3) := by decide +kernel
theorem dX1_examineBinding_5 : decode cX1_examineBinding 5 = .ok (.aload_n 2, 1) := by decide +kernel
theorem dX1_examineBinding_6 : decode cX1_examineBinding 6 = .ok (.iload 4, 2) := by decide +kernel
theorem dX1_examineBinding_8 : decode cX1_examineBinding 8 = .ok (.invokevirtual 51, 3) := by decide +kernel
theorem dX1_examineBinding_11 : decode cX1_examineBinding 11 = .ok (.astore 5, 2) := by decide +kernel
theorem dX1_examineBinding_13 : decode cX1_examineBinding 13 = .ok (.aload 5, 2) := by decide +kernel
theorem dX1_examineBinding_15 : decode cX1_examineBinding 15 = .ok (.ifnonnull 5, 3) := by decide +kernel
theorem dX1_examineBinding_18 : decode cX1_examineBinding 18 = .ok (.iconst 0, 1) := by decide +kernel
theorem dX1_examineBinding_19 : decode cX1_examineBinding 19 = .ok (.ireturn, 1) := by decide +kernel
theorem dX1_examineBinding_20 : decode cX1_examineBinding 20 = .ok (.aload_n 1, 1) := by decide +kernel
theorem dX1_examineBinding_21 : decode cX1_examineBinding 21 = .ok (.getfield 104, 3) := by decide +kernel
theorem dX1_examineBinding_24 : decode cX1_examineBinding 24 = .ok (.ifCond .lt 12, 3) := by decide +kernel
theorem dX1_examineBinding_27 : decode cX1_examineBinding 27 = .ok (.aload_n 1, 1) := by decide +kernel
theorem dX1_examineBinding_28 : decode cX1_examineBinding 28 = .ok (.getfield 104, 3) := by decide +kernel
theorem dX1_examineBinding_31 : decode cX1_examineBinding 31 = .ok (.bipush 17, 2) := by decide +kernel
theorem dX1_examineBinding_33 : decode cX1_examineBinding 33 = .ok (.if_icmp .lt 9, 3) := by decide +kernel
theorem dX1_examineBinding_36 : decode cX1_examineBinding 36 = .ok (.aload_n 0, 1) := by decide +kernel
theorem dX1_examineBinding_37 : decode cX1_examineBinding 37 = .ok (.aload_n 1, 1) := by decide +kernel
theorem dX1_examineBinding_38 : decode cX1_examineBinding 38 = .ok (.invokevirtual 118, 3) := by decide +kernel
theorem dX1_examineBinding_41 : decode cX1_examineBinding 41 = .ok (.ireturn, 1) := by decide +kernel
theorem dX1_examineBinding_42 : decode cX1_examineBinding 42 = .ok (.aload_n 0, 1) := by decide +kernel
theorem dX1_examineBinding_43 : decode cX1_examineBinding 43 = .ok (.getfield 19, 3) := by decide +kernel
theorem dX1_examineBinding_46 : decode cX1_examineBinding 46 = .ok (.aload_n 1, 1) := by decide +kernel
theorem dX1_examineBinding_47 : decode cX1_examineBinding 47 = .ok (.getfield 104, 3) := by decide +kernel
theorem dX1_examineBinding_50 : decode cX1_examineBinding 50 = .ok (.aaload, 1) := by decide +kernel
theorem dX1_examineBinding_51 : decode cX1_examineBinding 51 = .ok (.astore 6, 2) := by decide +kernel
theorem dX1_examineBinding_53 : decode cX1_examineBinding 53 = .ok (.aload 6, 2) := by decide +kernel
theorem dX1_examineBinding_55 : decode cX1_examineBinding 55 = .ok (.aload_n 2, 1) := by decide +kernel
theorem dX1_examineBinding_56 : decode cX1_examineBinding 56 = .ok (.invokevirtual 153, 3) := by decide +kernel
theorem dX1_examineBinding_59 : decode cX1_examineBinding 59 = .ok (.aload_n 1, 1) := by decide +kernel
theorem dX1_examineBinding_60 : decode cX1_examineBinding 60 = .ok (.getfield 104, 3) := by decide +kernel
theorem dX1_examineBinding_63 : decode cX1_examineBinding 63 = .ok (.bipush 7, 2) := by decide +kernel
theorem dX1_examineBinding_65 : decode cX1_examineBinding 65 = .ok (.imul, 1) := by decide +kernel
theorem dX1_examineBinding_66 : decode cX1_examineBinding 66 = .ok (.istore 7, 2) := by decide +kernel
theorem dX1_examineBinding_68 : decode cX1_examineBinding 68 = .ok (.aload 5, 2) := by decide +kernel
theorem dX1_examineBinding_70 : decode cX1_examineBinding 70 = .ok (.getfield 150, 3) := by decide +kernel
theorem dX1_examineBinding_73 : decode cX1_examineBinding 73 = .ok (.iconst (-1), 1) := by decide +kernel
theorem dX1_examineBinding_74 : decode cX1_examineBinding 74 = .ok (.if_icmp .ne 7, 3) := by decide +kernel
theorem dX1_examineBinding_77 : decode cX1_examineBinding 77 = .ok (.iconst 1, 1) := by decide +kernel
theorem dX1_examineBinding_78 : decode cX1_examineBinding 78 = .ok (.goto 4, 3) := by decide +kernel
theorem dX1_examineBinding_81 : decode cX1_examineBinding 81 = .ok (.iconst 0, 1) := by decide +kernel
theorem dX1_examineBinding_82 : decode cX1_examineBinding 82 = .ok (.istore 8, 2) := by decide +kernel
theorem dX1_examineBinding_84 : decode cX1_examineBinding 84 = .ok (.iload 8, 2) := by decide +kernel
theorem dX1_examineBinding_86 : decode cX1_examineBinding 86 = .ok (.ifCond .eq 15, 3) := by decide +kernel
theorem dX1_examineBinding_89 : decode cX1_examineBinding 89 = .ok (.aload 6, 2) := by decide +kernel
theorem dX1_examineBinding_91 : decode cX1_examineBinding 91 = .ok (.iload 7, 2) := by decide +kernel
theorem dX1_examineBinding_93 : decode cX1_examineBinding 93 = .ok (.aload 5, 2) := by decide +kernel
theorem dX1_examineBinding_95 : decode cX1_examineBinding 95 = .ok (.getfield 147, 3) := by decide +kernel
theorem dX1_examineBinding_98 : decode cX1_examineBinding 98 = .ok (.invokevirtual 47, 3) := by decide +kernel
theorem dX1_examineBinding_101 : decode cX1_examineBinding 101 = .ok (.aload_n 0, 1) := by decide +kernel
theorem dX1_examineBinding_102 : decode cX1_examineBinding 102 = .ok (.getfield 23, 3) := by decide +kernel
theorem dX1_examineBinding_105 : decode cX1_examineBinding 105 = .ok (.aload_n 1, 1) := by decide +kernel
theorem dX1_examineBinding_106 : decode cX1_examineBinding 106 = .ok (.getfield 104, 3) := by decide +kernel
theorem dX1_examineBinding_109 : decode cX1_examineBinding 109 = .ok (.iload 8, 2) := by decide +kernel
theorem dX1_examineBinding_111 : decode cX1_examineBinding 111 = .ok (.ifCond .eq 8, 3) := by decide +kernel
theorem dX1_examineBinding_114 : decode cX1_examineBinding 114 = .ok (.iload 7, 2) := by decide +kernel
theorem dX1_examineBinding_116 : decode cX1_examineBinding 116 = .ok (.goto 8, 3) := by decide +kernel
theorem dX1_examineBinding_119 : decode cX1_examineBinding 119 = .ok (.aload 5, 2) := by decide +kernel
theorem dX1_examineBinding_121 : decode cX1_examineBinding 121 = .ok (.getfield 150, 3) := by decide +kernel
theorem dX1_examineBinding_124 : decode cX1_examineBinding 124 = .ok (.iastore, 1) := by decide +kernel
theorem dX1_examineBinding_125 : decode cX1_examineBinding 125 = .ok (.aload_n 0, 1) := by decide +kernel
theorem dX1_examineBinding_126 : decode cX1_examineBinding 126 = .ok (.getfield 27, 3) := by decide +kernel
theorem dX1_examineBinding_129 : decode cX1_examineBinding 129 = .ok (.aload_n 1, 1) := by decide +kernel
theorem dX1_examineBinding_130 : decode cX1_examineBinding 130 = .ok (.getfield 104, 3) := by decide +kernel
theorem dX1_examineBinding_133 : decode cX1_examineBinding 133 = .ok (.iload 8, 2) := by decide +kernel
theorem dX1_examineBinding_135 : decode cX1_examineBinding 135 = .ok (.ifCond .eq 8, 3) := by decide +kernel
theorem dX1_examineBinding_138 : decode cX1_examineBinding 138 = .ok (.aload 5, 2) := by decide +kernel
theorem dX1_examineBinding_140 : decode cX1_examineBinding 140 = .ok (.goto 4, 3) := by decide +kernel
theorem dX1_examineBinding_143 : decode cX1_examineBinding 143 = .ok (.aconst_null, 1) := by decide +kernel
theorem dX1_examineBinding_144 : decode cX1_examineBinding 144 = .ok (.aastore, 1) := by decide +kernel
theorem dX1_examineBinding_145 : decode cX1_examineBinding 145 = .ok (.aload_n 0, 1) := by decide +kernel
theorem dX1_examineBinding_146 : decode cX1_examineBinding 146 = .ok (.aload_n 1, 1) := by decide +kernel
theorem dX1_examineBinding_147 : decode cX1_examineBinding 147 = .ok (.getfield 160, 3) := by decide +kernel
theorem dX1_examineBinding_150 : decode cX1_examineBinding 150 = .ok (.aload 6, 2) := by decide +kernel
theorem dX1_examineBinding_152 : decode cX1_examineBinding 152 = .ok (.iload 4, 2) := by decide +kernel
theorem dX1_examineBinding_154 : decode cX1_examineBinding 154 = .ok (.invokevirtual 51, 3) := by decide +kernel
theorem dX1_examineBinding_157 : decode cX1_examineBinding 157 = .ok (.astore 9, 2) := by decide +kernel
theorem dX1_examineBinding_159 : decode cX1_examineBinding 159 = .ok (.aload 9, 2) := by decide +kernel
theorem dX1_examineBinding_161 : decode cX1_examineBinding 161 = .ok (.ifnonnull 5, 3) := by decide +kernel
theorem dX1_examineBinding_164 : decode cX1_examineBinding 164 = .ok (.iconst 0, 1) := by decide +kernel
theorem dX1_examineBinding_165 : decode cX1_examineBinding 165 = .ok (.ireturn, 1) := by decide +kernel
theorem dX1_examineBinding_166 : decode cX1_examineBinding 166 = .ok (.aload 9, 2) := by decide +kernel
theorem dX1_examineBinding_168 : decode cX1_examineBinding 168 = .ok (.getfield 150, 3) := by decide +kernel
theorem dX1_examineBinding_171 : decode cX1_examineBinding 171 = .ok (.iconst (-1), 1) := by decide +kernel
theorem dX1_examineBinding_172 : decode cX1_examineBinding 172 = .ok (.if_icmp .eq 22, 3) := by decide +kernel
theorem dX1_examineBinding_175 : decode cX1_examineBinding 175 = .ok (.aload 9, 2) := by decide +kernel
theorem dX1_examineBinding_177 : decode cX1_examineBinding 177 = .ok (.getfield 150, 3) := by decide +kernel
theorem dX1_examineBinding_180 : decode cX1_examineBinding 180 = .ok (.bipush 7, 2) := by decide +kernel
theorem dX1_examineBinding_182 : decode cX1_examineBinding 182 = .ok (.idiv, 1) := by decide +kernel
theorem dX1_examineBinding_183 : decode cX1_examineBinding 183 = .ok (.aload_n 1, 1) := by decide +kernel
theorem dX1_examineBinding_184 : decode cX1_examineBinding 184 = .ok (.getfield 104, 3) := by decide +kernel
theorem dX1_examineBinding_187 : decode cX1_examineBinding 187 = .ok (.if_icmp .ne 7, 3) := by decide +kernel
theorem dX1_examineBinding_190 : decode cX1_examineBinding 190 = .ok (.iconst 1, 1) := by decide +kernel
theorem dX1_examineBinding_191 : decode cX1_examineBinding 191 = .ok (.goto 4, 3) := by decide +kernel
theorem dX1_examineBinding_194 : decode cX1_examineBinding 194 = .ok (.iconst 0, 1) := by decide +kernel
theorem dX1_examineBinding_195 : decode cX1_examineBinding 195 = .ok (.istore 10, 2) := by decide +kernel
theorem dX1_examineBinding_197 : decode cX1_examineBinding 197 = .ok (.aload_n 3, 1) := by decide +kernel
theorem dX1_examineBinding_198 : decode cX1_examineBinding 198 = .ok (.aload 9, 2) := by decide +kernel
theorem dX1_examineBinding_200 : decode cX1_examineBinding 200 = .ok (.getfield 147, 3) := by decide +kernel
theorem dX1_examineBinding_203 : decode cX1_examineBinding 203 = .ok (.putfield 147, 3) := by decide +kernel
theorem dX1_examineBinding_206 : decode cX1_examineBinding 206 = .ok (.aload_n 3, 1) := by decide +kernel
theorem dX1_examineBinding_207 : decode cX1_examineBinding 207 = .ok (.iload 10, 2) := by decide +kernel
theorem dX1_examineBinding_209 : decode cX1_examineBinding 209 = .ok (.ifCond .eq 7, 3) := by decide +kernel
theorem dX1_examineBinding_212 : decode cX1_examineBinding 212 = .ok (.iconst (-1), 1) := by decide +kernel
theorem dX1_examineBinding_213 : decode cX1_examineBinding 213 = .ok (.goto 8, 3) := by decide +kernel
theorem dX1_examineBinding_216 : decode cX1_examineBinding 216 = .ok (.aload 9, 2) := by decide +kernel
theorem dX1_examineBinding_218 : decode cX1_examineBinding 218 = .ok (.getfield 150, 3) := by decide +kernel
theorem dX1_examineBinding_221 : decode cX1_examineBinding 221 = .ok (.putfield 150, 3) := by decide +kernel
theorem dX1_examineBinding_224 : decode cX1_examineBinding 224 = .ok (.aload_n 3, 1) := by decide +kernel
theorem dX1_examineBinding_225 : decode cX1_examineBinding 225 = .ok (.getfield 126, 3) := by decide +kernel
theorem dX1_examineBinding_228 : decode cX1_examineBinding 228 = .ok (.aload 9, 2) := by decide +kernel
theorem dX1_examineBinding_230 : decode cX1_examineBinding 230 = .ok (.getfield 126, 3) := by decide +kernel
theorem dX1_examineBinding_233 : decode cX1_examineBinding 233 = .ok (.invokevirtual 153, 3) := by decide +kernel
theorem dX1_examineBinding_236 : decode cX1_examineBinding 236 = .ok (.aload_n 3, 1) := by decide +kernel
theorem dX1_examineBinding_237 : decode cX1_examineBinding 237 = .ok (.getfield 133, 3) := by decide +kernel
theorem dX1_examineBinding_240 : decode cX1_examineBinding 240 = .ok (.aload 9, 2) := by decide +kernel
theorem dX1_examineBinding_242 : decode cX1_examineBinding 242 = .ok (.getfield 133, 3) := by decide +kernel
theorem dX1_examineBinding_245 : decode cX1_examineBinding 245 = .ok (.invokevirtual 153, 3) := by decide +kernel
theorem dX1_examineBinding_248 : decode cX1_examineBinding 248 = .ok (.iconst 1, 1) := by decide +kernel
theorem dX1_examineBinding_249 : decode cX1_examineBinding 249 = .ok (.ireturn, 1) := by decide +kernel
set_option maxRecDepth 20000 in
set_option maxHeartbeats 4000000 in
theorem w_X1_examineBinding {c : cX} {d : Nat} {C : cS} {K : Option Value → cS → Prop} (t : Nat) (p0 : Option Nat) (p1 : Option Nat) (p2 : Option Nat) (p3 : Int32) (h : ∃ a1 : Nat, p0 = some a1 ∧ (cT C a1 5 7 ∧ (cT C t 1 7 ∧ (cM c d eX1_examine (.ref t :: [va_rf (cR C a1 4), va_rf p1, .int p3]) C (fun v C4 => ∃ z5 : Option Nat, v = some (va_rf z5) ∧ cle C C4 ∧ ((z5 = none → (K (some (.int 0)) C4)) ∧ (∀ a11 : Nat, z5 = some a11 → (((cI C4 a1 3) < 0 → (cM c d eX1_refuse (.ref t :: [va_rf p0]) C4 (fun v C13 => ∃ z14 : Int32, v = some (.int z14) ∧ cle C4 C13 ∧ (rB z14 ∧ K (some (.int z14)) C13)))) ∧ (¬ (cI C4 a1 3) < 0 → (((cI C4 a1 3) < 17 → (∃ a20 : Nat, (cR C4 t 1) = some a20 ∧ (∃ n23 : Nat, cT C4 a20 27 n23 ∧ (∃ j24 : Nat, am_ix (cI C4 a1 3) j24 n23 ∧ (∃ a26 : Nat, (cR C4 a20 j24) = some a26 ∧ (cT C4 a26 8 2 ∧ (cM c d eX8_copy (.ref a26 :: [va_rf p1]) C4 (fun v C28 => v = none ∧ cle C4 C28 ∧ (cT C28 a11 2 4 ∧ ((¬ (cI C28 a11 1) = (-1) → (cG c eX1_examineBinding (d + 1) (cQ K) 101 [some (.ref t), some (va_rf p0), none, some (va_rf p2), some (.int p3), some (va_rf z5), some (va_rf (cR C4 a20 j24)), some (.int ((cI C28 a1 3) * 7)), some (.int 0), none, none] [] C28)) ∧ ((cI C28 a11 1) = (-1) → (cM c d eX8_restrict (.ref a26 :: [.int ((cI C28 a1 3) * 7), .int (cI C28 a11 0)]) C28 (fun v C38 => v = none ∧ cle C28 C38 ∧ (cG c eX1_examineBinding (d + 1) (cQ K) 101 [some (.ref t), some (va_rf p0), none, some (va_rf p2), some (.int p3), some (va_rf z5), some (va_rf (cR C4 a20 j24)), some (.int ((cI C28 a1 3) * 7)), some (.int 1), none, none] [] C38)))))))))))))) ∧ (¬ (cI C4 a1 3) < 17 → (cM c d eX1_refuse (.ref t :: [va_rf p0]) C4 (fun v C46 => ∃ z47 : Int32, v = some (.int z47) ∧ cle C4 C46 ∧ (rB z47 ∧ K (some (.int z47)) C46)))))))))))))) : cM c (d + 1) eX1_examineBinding [.ref t, va_rf p0, va_rf p1, va_rf p2, .int p3] C K := by
  refine cM.of2 (lv := [some (.ref t), some (va_rf p0), some (va_rf p1), some (va_rf p2), some (.int p3), none, none, none, none, none, none]) (by decide) (by simp only [am_sl_i, am_sl_r, am_sl_l, am_sl_o, am_sl_n]; exact Nat.le_of_ble_eq_true rfl) (by simp only [am_en, am_sl_i, am_sl_r, am_sl_l, am_sl_o, am_sl_n]; rfl) ?_
  refine ag_aload_n dX1_examineBinding_0 rfl (Or.inr ⟨_, rfl⟩) ?_
  refine ag_aload_n dX1_examineBinding_1 rfl (va_rf_or _) ?_
  obtain ⟨a1, hr2, h⟩ := h
  refine cr_stk (st' := [.ref a1, .ref t]) (by rw [hr2]; rfl) ?_
  obtain ⟨hT3, h⟩ := h
  refine cr_get (v := va_rf (cR C a1 4)) dX1_examineBinding_2 fw_1_140 hT3 rfl ?_
  refine ag_aload_n dX1_examineBinding_5 rfl (va_rf_or _) ?_
  refine ag_iload dX1_examineBinding_6 rfl ?_
  obtain ⟨hT7, h⟩ := h
  refine cr_callV (as := [va_rf (cR C a1 4), va_rf p1, .int p3]) (rest := []) dX1_examineBinding_8 me_X1_examine mi_X1_examine lk_1_51 hT7 rfl rfl (Nat.le_of_ble_eq_true rfl) ?_
  refine cM.mono h ?_
  rintro v C4 ⟨z5, rfl, hL6, h⟩
  have hT8 := cT.le (C := C) hT3 hL6
  have hT9 := cT.le (C := C) hT7 hL6
  show cG _ _ _ _ _ _ [va_rf z5] _
  refine ag_astore (lv2 := [some (.ref t), some (va_rf p0), some (va_rf p1), some (va_rf p2), some (.int p3), some (va_rf z5), none, none, none, none, none]) dX1_examineBinding_11 (Nat.le_of_ble_eq_true rfl) rfl (va_rf_or _) ?_
  refine ag_aload dX1_examineBinding_13 rfl (va_rf_or _) ?_
  refine cr_ifnonnull (tgt := 20) dX1_examineBinding_15 rfl (fun a11 hr10 => ?_) (fun hr10 => ?_)
  · have h := h.2 a11 hr10
    refine ag_aload_n dX1_examineBinding_20 rfl (va_rf_or _) ?_
    refine cr_stk (st' := [.ref a1]) (by rw [hr2]; rfl) ?_
    refine cr_get (v := .int (cI C4 a1 3)) dX1_examineBinding_21 fw_1_104 hT8 rfl ?_
    refine ag_if_lt (tgt := 36) dX1_examineBinding_24 rfl (fun hc12 => ?_) (fun hc12 => ?_)
    · have h := h.1 hc12
      refine ag_aload_n dX1_examineBinding_36 rfl (Or.inr ⟨_, rfl⟩) ?_
      refine ag_aload_n dX1_examineBinding_37 rfl (va_rf_or _) ?_
      refine cr_callV (as := [va_rf p0]) (rest := []) dX1_examineBinding_38 me_X1_refuse mi_X1_refuse lk_1_118 hT9 rfl rfl (Nat.le_of_ble_eq_true rfl) ?_
      refine cM.mono h ?_
      rintro v C13 ⟨z14, rfl, hL15, h⟩
      have hT16 := cT.le (C := C4) hT8 hL15
      have hT17 := cT.le (C := C4) hT9 hL15
      show cG _ _ _ _ _ _ [.int z14] _
      obtain ⟨hb18, h⟩ := h
      exact ag_ret (v := some (.int z14)) dX1_examineBinding_41 ⟨_, rfl, rB_n hb18⟩ ⟨_, rfl, _, rfl, h⟩ rfl
    · have h := h.2 hc12
      refine ag_aload_n dX1_examineBinding_27 rfl (va_rf_or _) ?_
      refine cr_stk (st' := [.ref a1]) (by rw [hr2]; rfl) ?_
      refine cr_get (v := .int (cI C4 a1 3)) dX1_examineBinding_28 fw_1_104 hT8 rfl ?_
      refine ag_bipush (v := 17) dX1_examineBinding_31 (by decide) ?_
      refine ag_icmp_lt (tgt := 42) dX1_examineBinding_33 rfl (fun hc19 => ?_) (fun hc19 => ?_)
      · have h := h.1 hc19
        refine ag_aload_n dX1_examineBinding_42 rfl (Or.inr ⟨_, rfl⟩) ?_
        refine cr_get (v := va_rf (cR C4 t 1)) dX1_examineBinding_43 fw_1_19 hT9 rfl ?_
        refine ag_aload_n dX1_examineBinding_46 rfl (va_rf_or _) ?_
        refine cr_stk (st' := [.ref a1, va_rf (cR C4 t 1)]) (by rw [hr2]; rfl) ?_
        refine cr_get (v := .int (cI C4 a1 3)) dX1_examineBinding_47 fw_1_104 hT8 rfl ?_
        obtain ⟨a20, hr21, h⟩ := h
        refine cr_stk (st' := [.int (cI C4 a1 3), .ref a20]) (by rw [hr21]; rfl) ?_
        obtain ⟨n23, hT22, h⟩ := h
        obtain ⟨j24, hj25, h⟩ := h
        refine cr_al (r := (cR C4 a20 j24)) dX1_examineBinding_50 hT22 (by decide) hj25 rfl ?_
        refine ag_astore (lv2 := [some (.ref t), some (va_rf p0), some (va_rf p1), some (va_rf p2), some (.int p3), some (va_rf z5), some (va_rf (cR C4 a20 j24)), none, none, none, none]) dX1_examineBinding_51 (Nat.le_of_ble_eq_true rfl) (by simp [am_st1, am_kill, va_rf_cat] <;> rfl) (va_rf_or _) ?_
        refine ag_aload dX1_examineBinding_53 rfl (va_rf_or _) ?_
        refine ag_aload_n dX1_examineBinding_55 rfl (va_rf_or _) ?_
        obtain ⟨a26, hr27, h⟩ := h
        refine cr_stk (st' := [va_rf p1, .ref a26]) (by rw [hr27]; rfl) ?_
        obtain ⟨hT31, h⟩ := h
        refine cr_callV (as := [va_rf p1]) (rest := []) dX1_examineBinding_56 me_X8_copy mi_X8_copy lk_1_153 hT31 rfl rfl (Nat.le_of_ble_eq_true rfl) ?_
        refine cM.mono h ?_
        rintro v C28 ⟨rfl, hL30, h⟩
        have hT32 := cT.le (C := C4) hT8 hL30
        have hT33 := cT.le (C := C4) hT9 hL30
        have hT34 := cT.le (C := C4) hT22 hL30
        have hT35 := cT.le (C := C4) hT31 hL30
        show cG _ _ _ _ _ _ [] _
        refine ag_aload_n dX1_examineBinding_59 rfl (va_rf_or _) ?_
        refine cr_stk (st' := [.ref a1]) (by rw [hr2]; rfl) ?_
        refine cr_get (v := .int (cI C28 a1 3)) dX1_examineBinding_60 fw_1_104 hT32 rfl ?_
        refine ag_bipush (v := 7) dX1_examineBinding_63 (by decide) ?_
        refine ag_imul dX1_examineBinding_65 rfl ?_
        refine ag_istore (lv2 := [some (.ref t), some (va_rf p0), some (va_rf p1), some (va_rf p2), some (.int p3), some (va_rf z5), some (va_rf (cR C4 a20 j24)), some (.int ((cI C28 a1 3) * 7)), none, none, none]) dX1_examineBinding_66 (Nat.le_of_ble_eq_true rfl) (by simp [am_st1, am_kill, va_rf_cat] <;> rfl) ?_
        refine ag_aload dX1_examineBinding_68 rfl (va_rf_or _) ?_
        refine cr_stk (st' := [.ref a11]) (by rw [hr10]; rfl) ?_
        obtain ⟨hT36, h⟩ := h
        refine cr_get (v := .int (cI C28 a11 1)) dX1_examineBinding_70 fw_1_150 hT36 rfl ?_
        refine ag_iconst (v := (-1)) dX1_examineBinding_73 rfl ?_
        refine ag_icmp_ne (tgt := 81) dX1_examineBinding_74 rfl (fun hc37 => ?_) (fun hc37 => ?_)
        · have h := h.1 hc37
          refine ag_iconst (v := 0) dX1_examineBinding_81 rfl ?_
          refine ag_istore (lv2 := [some (.ref t), some (va_rf p0), some (va_rf p1), some (va_rf p2), some (.int p3), some (va_rf z5), some (va_rf (cR C4 a20 j24)), some (.int ((cI C28 a1 3) * 7)), some (.int 0), none, none]) dX1_examineBinding_82 (Nat.le_of_ble_eq_true rfl) rfl ?_
          refine ag_iload dX1_examineBinding_84 rfl ?_
          refine ag_if_eq (tgt := 101) dX1_examineBinding_86 rfl (fun _ => ?_) (fun q => absurd q (by decide))
          refine ag_drop 2 ?_
          exact h
        · have h := h.2 hc37
          refine ag_iconst (v := 1) dX1_examineBinding_77 rfl ?_
          refine ag_goto (tgt := 82) dX1_examineBinding_78 rfl ?_
          refine ag_istore (lv2 := [some (.ref t), some (va_rf p0), some (va_rf p1), some (va_rf p2), some (.int p3), some (va_rf z5), some (va_rf (cR C4 a20 j24)), some (.int ((cI C28 a1 3) * 7)), some (.int 1), none, none]) dX1_examineBinding_82 (Nat.le_of_ble_eq_true rfl) rfl ?_
          refine ag_iload dX1_examineBinding_84 rfl ?_
          refine ag_if_eq (tgt := 101) dX1_examineBinding_86 rfl (fun q => absurd q (by decide)) (fun _ => ?_)
          refine ag_aload dX1_examineBinding_89 rfl (va_rf_or _) ?_
          refine ag_iload dX1_examineBinding_91 rfl ?_
          refine ag_aload dX1_examineBinding_93 rfl (va_rf_or _) ?_
          refine cr_stk (st' := [.ref a11, .int ((cI C28 a1 3) * 7), va_rf (cR C4 a20 j24)]) (by rw [hr10]; rfl) ?_
          refine cr_get (v := .int (cI C28 a11 0)) dX1_examineBinding_95 fw_1_147 hT36 rfl ?_
          refine cr_stk (st' := [.int (cI C28 a11 0), .int ((cI C28 a1 3) * 7), .ref a26]) (by rw [hr27]; rfl) ?_
          refine cr_callV (as := [.int ((cI C28 a1 3) * 7), .int (cI C28 a11 0)]) (rest := []) dX1_examineBinding_98 me_X8_restrict mi_X8_restrict lk_1_47 hT35 rfl rfl (Nat.le_of_ble_eq_true rfl) ?_
          refine cM.mono h ?_
          rintro v C38 ⟨rfl, hL40, h⟩
          have hT41 := cT.le (C := C28) hT32 hL40
          have hT42 := cT.le (C := C28) hT33 hL40
          have hT43 := cT.le (C := C28) hT34 hL40
          have hT44 := cT.le (C := C28) hT35 hL40
          have hT45 := cT.le (C := C28) hT36 hL40
          show cG _ _ _ _ _ _ [] _
          refine ag_drop 2 ?_
          exact h
      · have h := h.2 hc19
        refine ag_aload_n dX1_examineBinding_36 rfl (Or.inr ⟨_, rfl⟩) ?_
        refine ag_aload_n dX1_examineBinding_37 rfl (va_rf_or _) ?_
        refine cr_callV (as := [va_rf p0]) (rest := []) dX1_examineBinding_38 me_X1_refuse mi_X1_refuse lk_1_118 hT9 rfl rfl (Nat.le_of_ble_eq_true rfl) ?_
        refine cM.mono h ?_
        rintro v C46 ⟨z47, rfl, hL48, h⟩
        have hT49 := cT.le (C := C4) hT8 hL48
        have hT50 := cT.le (C := C4) hT9 hL48
        show cG _ _ _ _ _ _ [.int z47] _
        obtain ⟨hb51, h⟩ := h
        exact ag_ret (v := some (.int z47)) dX1_examineBinding_41 ⟨_, rfl, rB_n hb51⟩ ⟨_, rfl, _, rfl, h⟩ rfl
  · have h := h.1 hr10
    refine ag_iconst (v := 0) dX1_examineBinding_18 rfl ?_
    exact ag_ret (v := some (.int 0)) dX1_examineBinding_19 ⟨_, rfl, rB_n (Or.inl rfl)⟩ ⟨_, rfl, _, rfl, h⟩ rfl
set_option maxRecDepth 20000 in
set_option maxHeartbeats 4000000 in
theorem w_X1_examineBinding_101 {c : cX} {d : Nat} {C : cS} {K : Option Value → cS → Prop} (t : Nat) (v1 : Option Nat) (v3 : Option Nat) (v4 : Int32) (v5 : Option Nat) (v6 : Option Nat) (v7 : Int32) (v8 : Int32) (h : cT C t 1 7 ∧ (∃ a2 : Nat, v1 = some a2 ∧ (cT C a2 5 7 ∧ ((v8 = 0 → (∃ a6 : Nat, v5 = some a6 ∧ (cT C a6 2 4 ∧ (cG c eX1_examineBinding (d + 1) (cQ K) 124 [some (.ref t), some (va_rf v1), none, some (va_rf v3), some (.int v4), some (va_rf v5), some (va_rf v6), none, some (.int v8), none, none] [.int (cI C a6 1), .int (cI C a2 3), va_rf (cR C t 2)] C)))) ∧ (¬ v8 = 0 → (cG c eX1_examineBinding (d + 1) (cQ K) 124 [some (.ref t), some (va_rf v1), none, some (va_rf v3), some (.int v4), some (va_rf v5), some (va_rf v6), none, some (.int v8), none, none] [.int v7, .int (cI C a2 3), va_rf (cR C t 2)] C)))))) : cG c eX1_examineBinding (d + 1) (cQ K) 101 [some (.ref t), some (va_rf v1), none, some (va_rf v3), some (.int v4), some (va_rf v5), some (va_rf v6), some (.int v7), some (.int v8), none, none] [] C := by
  refine ag_aload_n dX1_examineBinding_101 rfl (Or.inr ⟨_, rfl⟩) ?_
  obtain ⟨hT1, h⟩ := h
  refine cr_get (v := va_rf (cR C t 2)) dX1_examineBinding_102 fw_1_23 hT1 rfl ?_
  refine ag_aload_n dX1_examineBinding_105 rfl (va_rf_or _) ?_
  obtain ⟨a2, hr3, h⟩ := h
  refine cr_stk (st' := [.ref a2, va_rf (cR C t 2)]) (by rw [hr3]; rfl) ?_
  obtain ⟨hT4, h⟩ := h
  refine cr_get (v := .int (cI C a2 3)) dX1_examineBinding_106 fw_1_104 hT4 rfl ?_
  refine ag_iload dX1_examineBinding_109 rfl ?_
  refine ag_if_eq (tgt := 119) dX1_examineBinding_111 rfl (fun hc5 => ?_) (fun hc5 => ?_)
  · have h := h.1 hc5
    refine ag_aload dX1_examineBinding_119 rfl (va_rf_or _) ?_
    obtain ⟨a6, hr7, h⟩ := h
    refine cr_stk (st' := [.ref a6, .int (cI C a2 3), va_rf (cR C t 2)]) (by rw [hr7]; rfl) ?_
    obtain ⟨hT8, h⟩ := h
    refine cr_get (v := .int (cI C a6 1)) dX1_examineBinding_121 fw_1_150 hT8 rfl ?_
    refine ag_drop 7 ?_
    exact h
  · have h := h.2 hc5
    refine ag_iload dX1_examineBinding_114 rfl ?_
    refine ag_goto (tgt := 124) dX1_examineBinding_116 rfl ?_
    refine ag_drop 7 ?_
    exact h
set_option maxRecDepth 20000 in
set_option maxHeartbeats 4000000 in
theorem w_X1_examineBinding_124 {c : cX} {d : Nat} {C : cS} {K : Option Value → cS → Prop} (t : Nat) (v1 : Option Nat) (v3 : Option Nat) (v4 : Int32) (v5 : Option Nat) (v6 : Option Nat) (v8 : Int32) (s0 : Int32) (s1 : Int32) (s2 : Option Nat) (h : ∃ a1 : Nat, s2 = some a1 ∧ (∃ n4 : Nat, cT C a1 20 n4 ∧ (∃ j5 : Nat, am_ix s1 j5 n4 ∧ (cT C t 1 7 ∧ (∃ a8 : Nat, v1 = some a8 ∧ (cT C a8 5 7 ∧ ((v8 = 0 → (cG c eX1_examineBinding (d + 1) (cQ K) 144 [some (.ref t), some (va_rf v1), none, some (va_rf v3), some (.int v4), none, some (va_rf v6), none, none, none, none] [va_rf none, .int (cI (csi C a1 j5 s0) a8 3), va_rf (cR C t 3)] (csi C a1 j5 s0))) ∧ (¬ v8 = 0 → (cG c eX1_examineBinding (d + 1) (cQ K) 144 [some (.ref t), some (va_rf v1), none, some (va_rf v3), some (.int v4), none, some (va_rf v6), none, none, none, none] [va_rf v5, .int (cI (csi C a1 j5 s0) a8 3), va_rf (cR C t 3)] (csi C a1 j5 s0)))))))))) : cG c eX1_examineBinding (d + 1) (cQ K) 124 [some (.ref t), some (va_rf v1), none, some (va_rf v3), some (.int v4), some (va_rf v5), some (va_rf v6), none, some (.int v8), none, none] [.int s0, .int s1, va_rf s2] C := by
  obtain ⟨a1, hr2, h⟩ := h
  refine cr_stk (st' := [.int s0, .int s1, .ref a1]) (by rw [hr2]; rfl) ?_
  obtain ⟨n4, hT3, h⟩ := h
  obtain ⟨j5, hj6, h⟩ := h
  refine cr_is (C2 := (csi C a1 j5 s0)) dX1_examineBinding_124 hT3 hj6 rfl ?_
  refine ag_aload_n dX1_examineBinding_125 rfl (Or.inr ⟨_, rfl⟩) ?_
  obtain ⟨hT7, h⟩ := h
  refine cr_get (v := va_rf (cR C t 3)) dX1_examineBinding_126 fw_1_27 hT7 rfl ?_
  refine ag_aload_n dX1_examineBinding_129 rfl (va_rf_or _) ?_
  obtain ⟨a8, hr9, h⟩ := h
  refine cr_stk (st' := [.ref a8, va_rf (cR C t 3)]) (by rw [hr9]; rfl) ?_
  obtain ⟨hT10, h⟩ := h
  refine cr_get (v := .int (cI (csi C a1 j5 s0) a8 3)) dX1_examineBinding_130 fw_1_104 hT10 rfl ?_
  refine ag_iload dX1_examineBinding_133 rfl ?_
  refine ag_if_eq (tgt := 143) dX1_examineBinding_135 rfl (fun hc11 => ?_) (fun hc11 => ?_)
  · have h := h.1 hc11
    refine ag_null dX1_examineBinding_143 ?_
    refine ag_drop 5 ?_
    refine ag_drop 8 ?_
    exact h
  · have h := h.2 hc11
    refine ag_aload dX1_examineBinding_138 rfl (va_rf_or _) ?_
    refine ag_goto (tgt := 144) dX1_examineBinding_140 rfl ?_
    refine ag_drop 5 ?_
    refine ag_drop 8 ?_
    exact h
set_option maxRecDepth 20000 in
set_option maxHeartbeats 4000000 in
theorem w_X1_examineBinding_144 {c : cX} {d : Nat} {C : cS} {K : Option Value → cS → Prop} (t : Nat) (v1 : Option Nat) (v3 : Option Nat) (v4 : Int32) (v6 : Option Nat) (s0 : Option Nat) (s1 : Int32) (s2 : Option Nat) (h : ∃ a1 : Nat, s2 = some a1 ∧ (∃ n4 : Nat, cT C a1 25 n4 ∧ (∃ j5 : Nat, am_ix s1 j5 n4 ∧ ((∀ b : Nat, s0 = some b → cT C b 2 4) ∧ (∃ a8 : Nat, v1 = some a8 ∧ (cT C a8 5 7 ∧ (cT C t 1 7 ∧ (cM c d eX1_examine (.ref t :: [va_rf (cR (csr C a1 j5 s0) a8 5), va_rf v6, .int v4]) (csr C a1 j5 s0) (fun v C11 => ∃ z12 : Option Nat, v = some (va_rf z12) ∧ cle (csr C a1 j5 s0) C11 ∧ ((z12 = none → (K (some (.int 0)) C11)) ∧ (∀ a19 : Nat, z12 = some a19 → (cT C11 a19 2 4 ∧ (((cI C11 a19 1) = (-1) → (cG c eX1_examineBinding (d + 1) (cQ K) 195 [none, none, none, some (va_rf v3), none, none, none, none, none, some (va_rf z12), none] [.int 0] C11)) ∧ (¬ (cI C11 a19 1) = (-1) → ((¬ ((cI C11 a19 1) / 7) = (cI C11 a8 3) → (cG c eX1_examineBinding (d + 1) (cQ K) 195 [none, none, none, some (va_rf v3), none, none, none, none, none, some (va_rf z12), none] [.int 0] C11)) ∧ (((cI C11 a19 1) / 7) = (cI C11 a8 3) → (cG c eX1_examineBinding (d + 1) (cQ K) 195 [none, none, none, some (va_rf v3), none, none, none, none, none, some (va_rf z12), none] [.int 1] C11))))))))))))))))) : cG c eX1_examineBinding (d + 1) (cQ K) 144 [some (.ref t), some (va_rf v1), none, some (va_rf v3), some (.int v4), none, some (va_rf v6), none, none, none, none] [va_rf s0, .int s1, va_rf s2] C := by
  obtain ⟨a1, hr2, h⟩ := h
  refine cr_stk (st' := [va_rf s0, .int s1, .ref a1]) (by rw [hr2]; rfl) ?_
  obtain ⟨n4, hT3, h⟩ := h
  obtain ⟨j5, hj6, h⟩ := h
  obtain ⟨hb7, h⟩ := h
  refine cr_as (ci := 2) (r := s0) (nb := 4) (C2 := (csr C a1 j5 s0)) dX1_examineBinding_144 hT3 (by decide) hj6 hb7 rfl ?_
  refine ag_aload_n dX1_examineBinding_145 rfl (Or.inr ⟨_, rfl⟩) ?_
  refine ag_aload_n dX1_examineBinding_146 rfl (va_rf_or _) ?_
  obtain ⟨a8, hr9, h⟩ := h
  refine cr_stk (st' := [.ref a8, .ref t]) (by rw [hr9]; rfl) ?_
  obtain ⟨hT10, h⟩ := h
  refine cr_get (v := va_rf (cR (csr C a1 j5 s0) a8 5)) dX1_examineBinding_147 fw_1_160 hT10 rfl ?_
  refine ag_aload dX1_examineBinding_150 rfl (va_rf_or _) ?_
  refine ag_iload dX1_examineBinding_152 rfl ?_
  obtain ⟨hT14, h⟩ := h
  refine cr_callV (as := [va_rf (cR (csr C a1 j5 s0) a8 5), va_rf v6, .int v4]) (rest := []) dX1_examineBinding_154 me_X1_examine mi_X1_examine lk_1_51 hT14 rfl rfl (Nat.le_of_ble_eq_true rfl) ?_
  refine cM.mono h ?_
  rintro v C11 ⟨z12, rfl, hL13, h⟩
  have hT15 := cT.le (C := (csr C a1 j5 s0)) hT3 hL13
  have hT16 := cT.le (C := (csr C a1 j5 s0)) hT10 hL13
  have hT17 := cT.le (C := (csr C a1 j5 s0)) hT14 hL13
  show cG _ _ _ _ _ _ [va_rf z12] _
  refine ag_astore (lv2 := [some (.ref t), some (va_rf v1), none, some (va_rf v3), some (.int v4), none, some (va_rf v6), none, none, some (va_rf z12), none]) dX1_examineBinding_157 (Nat.le_of_ble_eq_true rfl) rfl (va_rf_or _) ?_
  refine ag_aload dX1_examineBinding_159 rfl (va_rf_or _) ?_
  refine cr_ifnonnull (tgt := 166) dX1_examineBinding_161 rfl (fun a19 hr18 => ?_) (fun hr18 => ?_)
  · have h := h.2 a19 hr18
    refine ag_aload dX1_examineBinding_166 rfl (va_rf_or _) ?_
    refine cr_stk (st' := [.ref a19]) (by rw [hr18]; rfl) ?_
    obtain ⟨hT20, h⟩ := h
    refine cr_get (v := .int (cI C11 a19 1)) dX1_examineBinding_168 fw_1_150 hT20 rfl ?_
    refine ag_iconst (v := (-1)) dX1_examineBinding_171 rfl ?_
    refine ag_icmp_eq (tgt := 194) dX1_examineBinding_172 rfl (fun hc21 => ?_) (fun hc21 => ?_)
    · have h := h.1 hc21
      refine ag_iconst (v := 0) dX1_examineBinding_194 rfl ?_
      refine ag_drop 0 ?_
      refine ag_drop 1 ?_
      refine ag_drop 4 ?_
      refine ag_drop 6 ?_
      exact h
    · have h := h.2 hc21
      refine ag_aload dX1_examineBinding_175 rfl (va_rf_or _) ?_
      refine cr_stk (st' := [.ref a19]) (by rw [hr18]; rfl) ?_
      refine cr_get (v := .int (cI C11 a19 1)) dX1_examineBinding_177 fw_1_150 hT20 rfl ?_
      refine ag_bipush (v := 7) dX1_examineBinding_180 (by decide) ?_
      refine ag_idiv dX1_examineBinding_182 (by decide) rfl ?_
      refine ag_aload_n dX1_examineBinding_183 rfl (va_rf_or _) ?_
      refine cr_stk (st' := [.ref a8, .int ((cI C11 a19 1) / 7)]) (by rw [hr9]; rfl) ?_
      refine cr_get (v := .int (cI C11 a8 3)) dX1_examineBinding_184 fw_1_104 hT16 rfl ?_
      refine ag_icmp_ne (tgt := 194) dX1_examineBinding_187 rfl (fun hc22 => ?_) (fun hc22 => ?_)
      · have h := h.1 hc22
        refine ag_iconst (v := 0) dX1_examineBinding_194 rfl ?_
        refine ag_drop 0 ?_
        refine ag_drop 1 ?_
        refine ag_drop 4 ?_
        refine ag_drop 6 ?_
        exact h
      · have h := h.2 hc22
        refine ag_iconst (v := 1) dX1_examineBinding_190 rfl ?_
        refine ag_goto (tgt := 195) dX1_examineBinding_191 rfl ?_
        refine ag_drop 0 ?_
        refine ag_drop 1 ?_
        refine ag_drop 4 ?_
        refine ag_drop 6 ?_
        exact h
  · have h := h.1 hr18
    refine ag_iconst (v := 0) dX1_examineBinding_164 rfl ?_
    exact ag_ret (v := some (.int 0)) dX1_examineBinding_165 ⟨_, rfl, rB_n (Or.inl rfl)⟩ ⟨_, rfl, _, rfl, h⟩ rfl
set_option maxRecDepth 20000 in
set_option maxHeartbeats 4000000 in
theorem w_X1_examineBinding_195 {c : cX} {d : Nat} {C : cS} {K : Option Value → cS → Prop} (v3 : Option Nat) (v9 : Option Nat) (s0 : Int32) (h : ∃ a1 : Nat, v9 = some a1 ∧ (cT C a1 2 4 ∧ (∃ a4 : Nat, v3 = some a4 ∧ (cT C a4 2 4 ∧ ((s0 = 0 → (cG c eX1_examineBinding (d + 1) (cQ K) 221 [none, none, none, some (va_rf v3), none, none, none, none, none, some (va_rf v9), none] [.int (cI C a1 1), va_rf v3] (csi C a4 0 (cI C a1 0)))) ∧ (¬ s0 = 0 → (cG c eX1_examineBinding (d + 1) (cQ K) 221 [none, none, none, some (va_rf v3), none, none, none, none, none, some (va_rf v9), none] [.int (-1), va_rf v3] (csi C a4 0 (cI C a1 0))))))))) : cG c eX1_examineBinding (d + 1) (cQ K) 195 [none, none, none, some (va_rf v3), none, none, none, none, none, some (va_rf v9), none] [.int s0] C := by
  refine ag_istore (lv2 := [none, none, none, some (va_rf v3), none, none, none, none, none, some (va_rf v9), some (.int s0)]) dX1_examineBinding_195 (Nat.le_of_ble_eq_true rfl) (by simp [am_st1, am_kill, va_rf_cat] <;> rfl) ?_
  refine ag_aload_n dX1_examineBinding_197 rfl (va_rf_or _) ?_
  refine ag_aload dX1_examineBinding_198 rfl (va_rf_or _) ?_
  obtain ⟨a1, hr2, h⟩ := h
  refine cr_stk (st' := [.ref a1, va_rf v3]) (by rw [hr2]; rfl) ?_
  obtain ⟨hT3, h⟩ := h
  refine cr_get (v := .int (cI C a1 0)) dX1_examineBinding_200 fw_1_147 hT3 rfl ?_
  obtain ⟨a4, hr5, h⟩ := h
  refine cr_stk (st' := [.int (cI C a1 0), .ref a4]) (by rw [hr5]; rfl) ?_
  obtain ⟨hT6, h⟩ := h
  refine cr_pi (C2 := (csi C a4 0 (cI C a1 0))) dX1_examineBinding_203 pw_1_147 rfl hT6 (fun _ => ⟨rfl, rfl⟩) rfl ?_
  refine ag_aload_n dX1_examineBinding_206 rfl (va_rf_or _) ?_
  refine ag_iload dX1_examineBinding_207 rfl ?_
  refine ag_if_eq (tgt := 216) dX1_examineBinding_209 rfl (fun hc7 => ?_) (fun hc7 => ?_)
  · have h := h.1 hc7
    refine ag_aload dX1_examineBinding_216 rfl (va_rf_or _) ?_
    refine cr_stk (st' := [.ref a1, va_rf v3]) (by rw [hr2]; rfl) ?_
    refine cr_get (v := .int (cI C a1 1)) dX1_examineBinding_218 fw_1_150 hT3 rfl ?_
    refine ag_drop 10 ?_
    exact h
  · have h := h.2 hc7
    refine ag_iconst (v := (-1)) dX1_examineBinding_212 rfl ?_
    refine ag_goto (tgt := 221) dX1_examineBinding_213 rfl ?_
    refine ag_drop 10 ?_
    exact h
set_option maxRecDepth 20000 in
set_option maxHeartbeats 4000000 in
theorem w_X1_examineBinding_221 {c : cX} {d : Nat} {C : cS} {K : Option Value → cS → Prop} (v3 : Option Nat) (v9 : Option Nat) (s0 : Int32) (s1 : Option Nat) (h : ∃ a1 : Nat, s1 = some a1 ∧ (cT C a1 2 4 ∧ (∃ a4 : Nat, v3 = some a4 ∧ (cT C a4 2 4 ∧ (∃ a7 : Nat, v9 = some a7 ∧ (cT C a7 2 4 ∧ (∃ a10 : Nat, (cR C a4 2) = some a10 ∧ (cT C a10 8 2 ∧ (cM c d eX8_copy (.ref a10 :: [va_rf (cR C a7 2)]) (csi C a1 1 s0) (fun v C12 => v = none ∧ cle (csi C a1 1 s0) C12 ∧ (∃ a20 : Nat, (cR C12 a4 3) = some a20 ∧ (cT C12 a20 8 2 ∧ (cM c d eX8_copy (.ref a20 :: [va_rf (cR C12 a7 3)]) C12 (fun v C22 => v = none ∧ cle C12 C22 ∧ (K (some (.int 1)) C22))))))))))))))) : cG c eX1_examineBinding (d + 1) (cQ K) 221 [none, none, none, some (va_rf v3), none, none, none, none, none, some (va_rf v9), none] [.int s0, va_rf s1] C := by
  obtain ⟨a1, hr2, h⟩ := h
  refine cr_stk (st' := [.int s0, .ref a1]) (by rw [hr2]; rfl) ?_
  obtain ⟨hT3, h⟩ := h
  refine cr_pi (C2 := (csi C a1 1 s0)) dX1_examineBinding_221 pw_1_150 rfl hT3 (fun _ => ⟨rfl, rfl⟩) rfl ?_
  refine ag_aload_n dX1_examineBinding_224 rfl (va_rf_or _) ?_
  obtain ⟨a4, hr5, h⟩ := h
  refine cr_stk (st' := [.ref a4]) (by rw [hr5]; rfl) ?_
  obtain ⟨hT6, h⟩ := h
  refine cr_get (v := va_rf (cR C a4 2)) dX1_examineBinding_225 fw_1_126 hT6 rfl ?_
  refine ag_aload dX1_examineBinding_228 rfl (va_rf_or _) ?_
  obtain ⟨a7, hr8, h⟩ := h
  refine cr_stk (st' := [.ref a7, va_rf (cR C a4 2)]) (by rw [hr8]; rfl) ?_
  obtain ⟨hT9, h⟩ := h
  refine cr_get (v := va_rf (cR C a7 2)) dX1_examineBinding_230 fw_1_126 hT9 rfl ?_
  obtain ⟨a10, hr11, h⟩ := h
  refine cr_stk (st' := [va_rf (cR C a7 2), .ref a10]) (by rw [hr11]; rfl) ?_
  obtain ⟨hT15, h⟩ := h
  refine cr_callV (as := [va_rf (cR C a7 2)]) (rest := []) dX1_examineBinding_233 me_X8_copy mi_X8_copy lk_1_153 hT15 rfl rfl (Nat.le_of_ble_eq_true rfl) ?_
  refine cM.mono h ?_
  rintro v C12 ⟨rfl, hL14, h⟩
  have hT16 := cT.le (C := (csi C a1 1 s0)) hT3 hL14
  have hT17 := cT.le (C := (csi C a1 1 s0)) hT6 hL14
  have hT18 := cT.le (C := (csi C a1 1 s0)) hT9 hL14
  have hT19 := cT.le (C := (csi C a1 1 s0)) hT15 hL14
  show cG _ _ _ _ _ _ [] _
  refine ag_aload_n dX1_examineBinding_236 rfl (va_rf_or _) ?_
  refine cr_stk (st' := [.ref a4]) (by rw [hr5]; rfl) ?_
  refine cr_get (v := va_rf (cR C12 a4 3)) dX1_examineBinding_237 fw_1_133 hT17 rfl ?_
  refine ag_aload dX1_examineBinding_240 rfl (va_rf_or _) ?_
  refine cr_stk (st' := [.ref a7, va_rf (cR C12 a4 3)]) (by rw [hr8]; rfl) ?_
  refine cr_get (v := va_rf (cR C12 a7 3)) dX1_examineBinding_242 fw_1_133 hT18 rfl ?_
  obtain ⟨a20, hr21, h⟩ := h
  refine cr_stk (st' := [va_rf (cR C12 a7 3), .ref a20]) (by rw [hr21]; rfl) ?_
  obtain ⟨hT25, h⟩ := h
  refine cr_callV (as := [va_rf (cR C12 a7 3)]) (rest := []) dX1_examineBinding_245 me_X8_copy mi_X8_copy lk_1_153 hT25 rfl rfl (Nat.le_of_ble_eq_true rfl) ?_
  refine cM.mono h ?_
  rintro v C22 ⟨rfl, hL24, h⟩
  have hT26 := cT.le (C := C12) hT16 hL24
  have hT27 := cT.le (C := C12) hT17 hL24
  have hT28 := cT.le (C := C12) hT18 hL24
  have hT29 := cT.le (C := C12) hT19 hL24
  have hT30 := cT.le (C := C12) hT25 hL24
  show cG _ _ _ _ _ _ [] _
  refine ag_iconst (v := 1) dX1_examineBinding_248 rfl ?_
  exact ag_ret (v := some (.int 1)) dX1_examineBinding_249 ⟨_, rfl, rB_n (Or.inr rfl)⟩ ⟨_, rfl, _, rfl, h⟩ rfl
theorem dX1_examineCall_0 : decode cX1_examineCall 0 = .ok (.aload_n 0, 1) := by decide +kernel
theorem dX1_examineCall_1 : decode cX1_examineCall 1 = .ok (.aload_n 1, 1) := by decide +kernel
theorem dX1_examineCall_2 : decode cX1_examineCall 2 = .ok (.getfield 140, 3) := by decide +kernel
theorem dX1_examineCall_5 : decode cX1_examineCall 5 = .ok (.aload_n 2, 1) := by decide +kernel
theorem dX1_examineCall_6 : decode cX1_examineCall 6 = .ok (.iload 4, 2) := by decide +kernel
theorem dX1_examineCall_8 : decode cX1_examineCall 8 = .ok (.invokevirtual 51, 3) := by decide +kernel
theorem dX1_examineCall_11 : decode cX1_examineCall 11 = .ok (.astore 5, 2) := by decide +kernel
theorem dX1_examineCall_13 : decode cX1_examineCall 13 = .ok (.aload 5, 2) := by decide +kernel
theorem dX1_examineCall_15 : decode cX1_examineCall 15 = .ok (.ifnonnull 5, 3) := by decide +kernel
theorem dX1_examineCall_18 : decode cX1_examineCall 18 = .ok (.iconst 0, 1) := by decide +kernel
theorem dX1_examineCall_19 : decode cX1_examineCall 19 = .ok (.ireturn, 1) := by decide +kernel
theorem dX1_examineCall_20 : decode cX1_examineCall 20 = .ok (.aload_n 0, 1) := by decide +kernel
theorem dX1_examineCall_21 : decode cX1_examineCall 21 = .ok (.getfield 35, 3) := by decide +kernel
theorem dX1_examineCall_24 : decode cX1_examineCall 24 = .ok (.ifnonnull 7, 3) := by decide +kernel
theorem dX1_examineCall_27 : decode cX1_examineCall 27 = .ok (.aconst_null, 1) := by decide +kernel
theorem dX1_examineCall_28 : decode cX1_examineCall 28 = .ok (.goto 14, 3) := by decide +kernel
theorem dX1_examineCall_31 : decode cX1_examineCall 31 = .ok (.aload_n 0, 1) := by decide +kernel
theorem dX1_examineCall_32 : decode cX1_examineCall 32 = .ok (.getfield 35, 3) := by decide +kernel
theorem dX1_examineCall_35 : decode cX1_examineCall 35 = .ok (.aload_n 1, 1) := by decide +kernel
theorem dX1_examineCall_36 : decode cX1_examineCall 36 = .ok (.getfield 74, 3) := by decide +kernel
theorem dX1_examineCall_39 : decode cX1_examineCall 39 = .ok (.invokestatic 169, 3) := by decide +kernel
theorem dX1_examineCall_42 : decode cX1_examineCall 42 = .ok (.astore 6, 2) := by decide +kernel
theorem dX1_examineCall_44 : decode cX1_examineCall 44 = .ok (.aload 6, 2) := by decide +kernel
theorem dX1_examineCall_46 : decode cX1_examineCall 46 = .ok (.ifnull 19, 3) := by decide +kernel
theorem dX1_examineCall_49 : decode cX1_examineCall 49 = .ok (.aload 5, 2) := by decide +kernel
theorem dX1_examineCall_51 : decode cX1_examineCall 51 = .ok (.getfield 147, 3) := by decide +kernel
theorem dX1_examineCall_54 : decode cX1_examineCall 54 = .ok (.aload 6, 2) := by decide +kernel
theorem dX1_examineCall_56 : decode cX1_examineCall 56 = .ok (.getfield 173, 3) := by decide +kernel
theorem dX1_examineCall_59 : decode cX1_examineCall 59 = .ok (.iconst (-1), 1) := by decide +kernel
theorem dX1_examineCall_60 : decode cX1_examineCall 60 = .ok (.ixor, 1) := by decide +kernel
theorem dX1_examineCall_61 : decode cX1_examineCall 61 = .ok (.iand, 1) := by decide +kernel
theorem dX1_examineCall_62 : decode cX1_examineCall 62 = .ok (.ifCond .eq 9, 3) := by decide +kernel
theorem dX1_examineCall_65 : decode cX1_examineCall 65 = .ok (.aload_n 0, 1) := by decide +kernel
theorem dX1_examineCall_66 : decode cX1_examineCall 66 = .ok (.aload_n 1, 1) := by decide +kernel
theorem dX1_examineCall_67 : decode cX1_examineCall 67 = .ok (.invokevirtual 118, 3) := by decide +kernel
theorem dX1_examineCall_70 : decode cX1_examineCall 70 = .ok (.ireturn, 1) := by decide +kernel
theorem dX1_examineCall_71 : decode cX1_examineCall 71 = .ok (.aload_n 3, 1) := by decide +kernel
theorem dX1_examineCall_72 : decode cX1_examineCall 72 = .ok (.aload 6, 2) := by decide +kernel
theorem dX1_examineCall_74 : decode cX1_examineCall 74 = .ok (.getfield 178, 3) := by decide +kernel
theorem dX1_examineCall_77 : decode cX1_examineCall 77 = .ok (.iconst (-1), 1) := by decide +kernel
theorem dX1_examineCall_78 : decode cX1_examineCall 78 = .ok (.aload_n 2, 1) := by decide +kernel
theorem dX1_examineCall_79 : decode cX1_examineCall 79 = .ok (.invokevirtual 114, 3) := by decide +kernel
theorem dX1_examineCall_82 : decode cX1_examineCall 82 = .ok (.aload 5, 2) := by decide +kernel
theorem dX1_examineCall_84 : decode cX1_examineCall 84 = .ok (.getfield 150, 3) := by decide +kernel
theorem dX1_examineCall_87 : decode cX1_examineCall 87 = .ok (.iconst (-1), 1) := by decide +kernel
theorem dX1_examineCall_88 : decode cX1_examineCall 88 = .ok (.if_icmp .eq 37, 3) := by decide +kernel
theorem dX1_examineCall_91 : decode cX1_examineCall 91 = .ok (.aload_n 3, 1) := by decide +kernel
theorem dX1_examineCall_92 : decode cX1_examineCall 92 = .ok (.getfield 126, 3) := by decide +kernel
theorem dX1_examineCall_95 : decode cX1_examineCall 95 = .ok (.aload 5, 2) := by decide +kernel
theorem dX1_examineCall_97 : decode cX1_examineCall 97 = .ok (.getfield 150, 3) := by decide +kernel
theorem dX1_examineCall_100 : decode cX1_examineCall 100 = .ok (.aload 6, 2) := by decide +kernel
theorem dX1_examineCall_102 : decode cX1_examineCall 102 = .ok (.getfield 179, 3) := by decide +kernel
theorem dX1_examineCall_105 : decode cX1_examineCall 105 = .ok (.invokevirtual 183, 3) := by decide +kernel
theorem dX1_examineCall_108 : decode cX1_examineCall 108 = .ok (.aload_n 3, 1) := by decide +kernel
theorem dX1_examineCall_109 : decode cX1_examineCall 109 = .ok (.getfield 133, 3) := by decide +kernel
theorem dX1_examineCall_112 : decode cX1_examineCall 112 = .ok (.aload 5, 2) := by decide +kernel
theorem dX1_examineCall_114 : decode cX1_examineCall 114 = .ok (.getfield 150, 3) := by decide +kernel
theorem dX1_examineCall_117 : decode cX1_examineCall 117 = .ok (.aload 6, 2) := by decide +kernel
theorem dX1_examineCall_119 : decode cX1_examineCall 119 = .ok (.getfield 187, 3) := by decide +kernel
theorem dX1_examineCall_122 : decode cX1_examineCall 122 = .ok (.invokevirtual 183, 3) := by decide +kernel
theorem dX1_examineCall_125 : decode cX1_examineCall 125 = .ok (.iconst 1, 1) := by decide +kernel
theorem dX1_examineCall_126 : decode cX1_examineCall 126 = .ok (.ireturn, 1) := by decide +kernel
set_option maxRecDepth 20000 in
set_option maxHeartbeats 4000000 in
theorem w_X1_examineCall {c : cX} {d : Nat} {C : cS} {K : Option Value → cS → Prop} (t : Nat) (p0 : Option Nat) (p1 : Option Nat) (p2 : Option Nat) (p3 : Int32) (h : ∃ a1 : Nat, p0 = some a1 ∧ (cT C a1 5 7 ∧ (cT C t 1 7 ∧ (cM c d eX1_examine (.ref t :: [va_rf (cR C a1 4), va_rf p1, .int p3]) C (fun v C4 => ∃ z5 : Option Nat, v = some (va_rf z5) ∧ cle C C4 ∧ ((z5 = none → (K (some (.int 0)) C4)) ∧ (∀ a11 : Nat, z5 = some a11 → (((cR C4 t 5) = none → (cG c eX1_examineCall (d + 1) (cQ K) 42 [some (.ref t), some (va_rf p0), some (va_rf p1), some (va_rf p2), none, some (va_rf z5), none] [va_rf none] C4)) ∧ (∀ a13 : Nat, (cR C4 t 5) = some a13 → (cM c d eX9_functionOf [va_rf (cR C4 t 5), .int (cI C4 a1 0)] C4 (fun v C14 => ∃ z15 : Option Nat, v = some (va_rf z15) ∧ cle C4 C14 ∧ (cG c eX1_examineCall (d + 1) (cQ K) 42 [some (.ref t), some (va_rf p0), some (va_rf p1), some (va_rf p2), none, some (va_rf z5), none] [va_rf z15] C14)))))))))))) : cM c (d + 1) eX1_examineCall [.ref t, va_rf p0, va_rf p1, va_rf p2, .int p3] C K := by
  refine cM.of2 (lv := [some (.ref t), some (va_rf p0), some (va_rf p1), some (va_rf p2), some (.int p3), none, none]) (by decide) (by simp only [am_sl_i, am_sl_r, am_sl_l, am_sl_o, am_sl_n]; exact Nat.le_of_ble_eq_true rfl) (by simp only [am_en, am_sl_i, am_sl_r, am_sl_l, am_sl_o, am_sl_n]; rfl) ?_
  refine ag_aload_n dX1_examineCall_0 rfl (Or.inr ⟨_, rfl⟩) ?_
  refine ag_aload_n dX1_examineCall_1 rfl (va_rf_or _) ?_
  obtain ⟨a1, hr2, h⟩ := h
  refine cr_stk (st' := [.ref a1, .ref t]) (by rw [hr2]; rfl) ?_
  obtain ⟨hT3, h⟩ := h
  refine cr_get (v := va_rf (cR C a1 4)) dX1_examineCall_2 fw_1_140 hT3 rfl ?_
  refine ag_aload_n dX1_examineCall_5 rfl (va_rf_or _) ?_
  refine ag_iload dX1_examineCall_6 rfl ?_
  obtain ⟨hT7, h⟩ := h
  refine cr_callV (as := [va_rf (cR C a1 4), va_rf p1, .int p3]) (rest := []) dX1_examineCall_8 me_X1_examine mi_X1_examine lk_1_51 hT7 rfl rfl (Nat.le_of_ble_eq_true rfl) ?_
  refine cM.mono h ?_
  rintro v C4 ⟨z5, rfl, hL6, h⟩
  have hT8 := cT.le (C := C) hT3 hL6
  have hT9 := cT.le (C := C) hT7 hL6
  show cG _ _ _ _ _ _ [va_rf z5] _
  refine ag_astore (lv2 := [some (.ref t), some (va_rf p0), some (va_rf p1), some (va_rf p2), some (.int p3), some (va_rf z5), none]) dX1_examineCall_11 (Nat.le_of_ble_eq_true rfl) rfl (va_rf_or _) ?_
  refine ag_aload dX1_examineCall_13 rfl (va_rf_or _) ?_
  refine cr_ifnonnull (tgt := 20) dX1_examineCall_15 rfl (fun a11 hr10 => ?_) (fun hr10 => ?_)
  · have h := h.2 a11 hr10
    refine ag_aload_n dX1_examineCall_20 rfl (Or.inr ⟨_, rfl⟩) ?_
    refine cr_get (v := va_rf (cR C4 t 5)) dX1_examineCall_21 fw_1_35 hT9 rfl ?_
    refine cr_ifnonnull (tgt := 31) dX1_examineCall_24 rfl (fun a13 hr12 => ?_) (fun hr12 => ?_)
    · have h := h.2 a13 hr12
      refine ag_aload_n dX1_examineCall_31 rfl (Or.inr ⟨_, rfl⟩) ?_
      refine cr_get (v := va_rf (cR C4 t 5)) dX1_examineCall_32 fw_1_35 hT9 rfl ?_
      refine ag_aload_n dX1_examineCall_35 rfl (va_rf_or _) ?_
      refine cr_stk (st' := [.ref a1, va_rf (cR C4 t 5)]) (by rw [hr2]; rfl) ?_
      refine cr_get (v := .int (cI C4 a1 0)) dX1_examineCall_36 fw_1_74 hT8 rfl ?_
      refine cr_callSN (as := [va_rf (cR C4 t 5), .int (cI C4 a1 0)]) (rest := []) dX1_examineCall_39 me_X9_functionOf ms_X9_functionOf ln_1_169 rfl rfl (Nat.le_of_ble_eq_true rfl) ?_
      refine cM.mono h ?_
      rintro v C14 ⟨z15, rfl, hL16, h⟩
      have hT17 := cT.le (C := C4) hT8 hL16
      have hT18 := cT.le (C := C4) hT9 hL16
      show cG _ _ _ _ _ _ [va_rf z15] _
      refine ag_drop 4 ?_
      exact h
    · have h := h.1 hr12
      refine ag_null dX1_examineCall_27 ?_
      refine ag_goto (tgt := 42) dX1_examineCall_28 rfl ?_
      refine ag_drop 4 ?_
      exact h
  · have h := h.1 hr10
    refine ag_iconst (v := 0) dX1_examineCall_18 rfl ?_
    exact ag_ret (v := some (.int 0)) dX1_examineCall_19 ⟨_, rfl, rB_n (Or.inl rfl)⟩ ⟨_, rfl, _, rfl, h⟩ rfl
set_option maxRecDepth 20000 in
set_option maxHeartbeats 4000000 in
theorem w_X1_examineCall_42 {c : cX} {d : Nat} {C : cS} {K : Option Value → cS → Prop} (t : Nat) (v1 : Option Nat) (v2 : Option Nat) (v3 : Option Nat) (v5 : Option Nat) (s0 : Option Nat) (h : (s0 = none → (cT C t 1 7 ∧ (cM c d eX1_refuse (.ref t :: [va_rf v1]) C (fun v C3 => ∃ z4 : Int32, v = some (.int z4) ∧ cle C C3 ∧ (rB z4 ∧ K (some (.int z4)) C3))))) ∧ (∀ a2 : Nat, s0 = some a2 → (∃ a9 : Nat, v5 = some a9 ∧ (cT C a9 2 4 ∧ (cT C a2 3 5 ∧ ((((cI C a9 0) &&& ((cI C a2 1) ^^^ (-1))) = 0 → (∃ a14 : Nat, v3 = some a14 ∧ (cT C a14 2 4 ∧ (cM c d eX2_assign (.ref a14 :: [.int (cI C a2 2), .int (-1), va_rf v2]) C (fun v C16 => v = none ∧ cle C C16 ∧ (((cI C16 a9 1) = (-1) → (K (some (.int 1)) C16)) ∧ (¬ (cI C16 a9 1) = (-1) → (∃ a24 : Nat, (cR C16 a14 2) = some a24 ∧ (cT C16 a24 8 2 ∧ (cM c d eX8_restrictFrom (.ref a24 :: [.int (cI C16 a9 1), .long (cJ C16 a2 3)]) C16 (fun v C26 => v = none ∧ cle C16 C26 ∧ (∃ a34 : Nat, (cR C26 a14 3) = some a34 ∧ (cT C26 a34 8 2 ∧ (cM c d eX8_restrictFrom (.ref a34 :: [.int (cI C26 a9 1), .long (cJ C26 a2 4)]) C26 (fun v C36 => v = none ∧ cle C26 C36 ∧ (K (some (.int 1)) C36)))))))))))))))) ∧ (¬ ((cI C a9 0) &&& ((cI C a2 1) ^^^ (-1))) = 0 → (cT C t 1 7 ∧ (cM c d eX1_refuse (.ref t :: [va_rf v1]) C (fun v C45 => ∃ z46 : Int32, v = some (.int z46) ∧ cle C C45 ∧ (rB z46 ∧ K (some (.int z46)) C45))))))))))) : cG c eX1_examineCall (d + 1) (cQ K) 42 [some (.ref t), some (va_rf v1), some (va_rf v2), some (va_rf v3), none, some (va_rf v5), none] [va_rf s0] C := by
  refine ag_astore (lv2 := [some (.ref t), some (va_rf v1), some (va_rf v2), some (va_rf v3), none, some (va_rf v5), some (va_rf s0)]) dX1_examineCall_42 (Nat.le_of_ble_eq_true rfl) (by simp [am_st1, am_kill, va_rf_cat] <;> rfl) (va_rf_or _) ?_
  refine ag_aload dX1_examineCall_44 rfl (va_rf_or _) ?_
  refine cr_ifnull (tgt := 65) dX1_examineCall_46 rfl (fun hr1 => ?_) (fun a2 hr1 => ?_)
  · have h := h.1 hr1
    refine ag_aload_n dX1_examineCall_65 rfl (Or.inr ⟨_, rfl⟩) ?_
    refine ag_aload_n dX1_examineCall_66 rfl (va_rf_or _) ?_
    obtain ⟨hT6, h⟩ := h
    refine cr_callV (as := [va_rf v1]) (rest := []) dX1_examineCall_67 me_X1_refuse mi_X1_refuse lk_1_118 hT6 rfl rfl (Nat.le_of_ble_eq_true rfl) ?_
    refine cM.mono h ?_
    rintro v C3 ⟨z4, rfl, hL5, h⟩
    have hT7 := cT.le (C := C) hT6 hL5
    show cG _ _ _ _ _ _ [.int z4] _
    obtain ⟨hb8, h⟩ := h
    exact ag_ret (v := some (.int z4)) dX1_examineCall_70 ⟨_, rfl, rB_n hb8⟩ ⟨_, rfl, _, rfl, h⟩ rfl
  · have h := h.2 a2 hr1
    refine ag_aload dX1_examineCall_49 rfl (va_rf_or _) ?_
    obtain ⟨a9, hr10, h⟩ := h
    refine cr_stk (st' := [.ref a9]) (by rw [hr10]; rfl) ?_
    obtain ⟨hT11, h⟩ := h
    refine cr_get (v := .int (cI C a9 0)) dX1_examineCall_51 fw_1_147 hT11 rfl ?_
    refine ag_aload dX1_examineCall_54 rfl (va_rf_or _) ?_
    refine cr_stk (st' := [.ref a2, .int (cI C a9 0)]) (by rw [hr1]; rfl) ?_
    obtain ⟨hT12, h⟩ := h
    refine cr_get (v := .int (cI C a2 1)) dX1_examineCall_56 fw_1_173 hT12 rfl ?_
    refine ag_iconst (v := (-1)) dX1_examineCall_59 rfl ?_
    refine ag_ixor dX1_examineCall_60 rfl ?_
    refine ag_iand dX1_examineCall_61 rfl ?_
    refine ag_if_eq (tgt := 71) dX1_examineCall_62 rfl (fun hc13 => ?_) (fun hc13 => ?_)
    · have h := h.1 hc13
      refine ag_aload_n dX1_examineCall_71 rfl (va_rf_or _) ?_
      refine ag_aload dX1_examineCall_72 rfl (va_rf_or _) ?_
      refine cr_stk (st' := [.ref a2, va_rf v3]) (by rw [hr1]; rfl) ?_
      refine cr_get (v := .int (cI C a2 2)) dX1_examineCall_74 fw_1_178 hT12 rfl ?_
      refine ag_iconst (v := (-1)) dX1_examineCall_77 rfl ?_
      refine ag_aload_n dX1_examineCall_78 rfl (va_rf_or _) ?_
      obtain ⟨a14, hr15, h⟩ := h
      refine cr_stk (st' := [va_rf v2, .int (-1), .int (cI C a2 2), .ref a14]) (by rw [hr15]; rfl) ?_
      obtain ⟨hT19, h⟩ := h
      refine cr_callV (as := [.int (cI C a2 2), .int (-1), va_rf v2]) (rest := []) dX1_examineCall_79 me_X2_assign mi_X2_assign lk_1_114 hT19 rfl rfl (Nat.le_of_ble_eq_true rfl) ?_
      refine cM.mono h ?_
      rintro v C16 ⟨rfl, hL18, h⟩
      have hT20 := cT.le (C := C) hT11 hL18
      have hT21 := cT.le (C := C) hT12 hL18
      have hT22 := cT.le (C := C) hT19 hL18
      show cG _ _ _ _ _ _ [] _
      refine ag_aload dX1_examineCall_82 rfl (va_rf_or _) ?_
      refine cr_stk (st' := [.ref a9]) (by rw [hr10]; rfl) ?_
      refine cr_get (v := .int (cI C16 a9 1)) dX1_examineCall_84 fw_1_150 hT20 rfl ?_
      refine ag_iconst (v := (-1)) dX1_examineCall_87 rfl ?_
      refine ag_icmp_eq (tgt := 125) dX1_examineCall_88 rfl (fun hc23 => ?_) (fun hc23 => ?_)
      · have h := h.1 hc23
        refine ag_iconst (v := 1) dX1_examineCall_125 rfl ?_
        exact ag_ret (v := some (.int 1)) dX1_examineCall_126 ⟨_, rfl, rB_n (Or.inr rfl)⟩ ⟨_, rfl, _, rfl, h⟩ rfl
      · have h := h.2 hc23
        refine ag_aload_n dX1_examineCall_91 rfl (va_rf_or _) ?_
        refine cr_stk (st' := [.ref a14]) (by rw [hr15]; rfl) ?_
        refine cr_get (v := va_rf (cR C16 a14 2)) dX1_examineCall_92 fw_1_126 hT22 rfl ?_
        refine ag_aload dX1_examineCall_95 rfl (va_rf_or _) ?_
        refine cr_stk (st' := [.ref a9, va_rf (cR C16 a14 2)]) (by rw [hr10]; rfl) ?_
        refine cr_get (v := .int (cI C16 a9 1)) dX1_examineCall_97 fw_1_150 hT20 rfl ?_
        refine ag_aload dX1_examineCall_100 rfl (va_rf_or _) ?_
        refine cr_stk (st' := [.ref a2, .int (cI C16 a9 1), va_rf (cR C16 a14 2)]) (by rw [hr1]; rfl) ?_
        refine cr_get (v := .long (cJ C16 a2 3)) dX1_examineCall_102 fw_1_179 hT21 rfl ?_
        obtain ⟨a24, hr25, h⟩ := h
        refine cr_stk (st' := [.long (cJ C16 a2 3), .int (cI C16 a9 1), .ref a24]) (by rw [hr25]; rfl) ?_
        obtain ⟨hT29, h⟩ := h
        refine cr_callV (as := [.int (cI C16 a9 1), .long (cJ C16 a2 3)]) (rest := []) dX1_examineCall_105 me_X8_restrictFrom mi_X8_restrictFrom lk_1_183 hT29 rfl rfl (Nat.le_of_ble_eq_true rfl) ?_
        refine cM.mono h ?_
        rintro v C26 ⟨rfl, hL28, h⟩
        have hT30 := cT.le (C := C16) hT20 hL28
        have hT31 := cT.le (C := C16) hT21 hL28
        have hT32 := cT.le (C := C16) hT22 hL28
        have hT33 := cT.le (C := C16) hT29 hL28
        show cG _ _ _ _ _ _ [] _
        refine ag_aload_n dX1_examineCall_108 rfl (va_rf_or _) ?_
        refine cr_stk (st' := [.ref a14]) (by rw [hr15]; rfl) ?_
        refine cr_get (v := va_rf (cR C26 a14 3)) dX1_examineCall_109 fw_1_133 hT32 rfl ?_
        refine ag_aload dX1_examineCall_112 rfl (va_rf_or _) ?_
        refine cr_stk (st' := [.ref a9, va_rf (cR C26 a14 3)]) (by rw [hr10]; rfl) ?_
        refine cr_get (v := .int (cI C26 a9 1)) dX1_examineCall_114 fw_1_150 hT30 rfl ?_
        refine ag_aload dX1_examineCall_117 rfl (va_rf_or _) ?_
        refine cr_stk (st' := [.ref a2, .int (cI C26 a9 1), va_rf (cR C26 a14 3)]) (by rw [hr1]; rfl) ?_
        refine cr_get (v := .long (cJ C26 a2 4)) dX1_examineCall_119 fw_1_187 hT31 rfl ?_
        obtain ⟨a34, hr35, h⟩ := h
        refine cr_stk (st' := [.long (cJ C26 a2 4), .int (cI C26 a9 1), .ref a34]) (by rw [hr35]; rfl) ?_
        obtain ⟨hT39, h⟩ := h
        refine cr_callV (as := [.int (cI C26 a9 1), .long (cJ C26 a2 4)]) (rest := []) dX1_examineCall_122 me_X8_restrictFrom mi_X8_restrictFrom lk_1_183 hT39 rfl rfl (Nat.le_of_ble_eq_true rfl) ?_
        refine cM.mono h ?_
        rintro v C36 ⟨rfl, hL38, h⟩
        have hT40 := cT.le (C := C26) hT30 hL38
        have hT41 := cT.le (C := C26) hT31 hL38
        have hT42 := cT.le (C := C26) hT32 hL38
        have hT43 := cT.le (C := C26) hT33 hL38
        have hT44 := cT.le (C := C26) hT39 hL38
        show cG _ _ _ _ _ _ [] _
        refine ag_iconst (v := 1) dX1_examineCall_125 rfl ?_
        exact ag_ret (v := some (.int 1)) dX1_examineCall_126 ⟨_, rfl, rB_n (Or.inr rfl)⟩ ⟨_, rfl, _, rfl, h⟩ rfl
    · have h := h.2 hc13
      refine ag_aload_n dX1_examineCall_65 rfl (Or.inr ⟨_, rfl⟩) ?_
      refine ag_aload_n dX1_examineCall_66 rfl (va_rf_or _) ?_
      obtain ⟨hT48, h⟩ := h
      refine cr_callV (as := [va_rf v1]) (rest := []) dX1_examineCall_67 me_X1_refuse mi_X1_refuse lk_1_118 hT48 rfl rfl (Nat.le_of_ble_eq_true rfl) ?_
      refine cM.mono h ?_
      rintro v C45 ⟨z46, rfl, hL47, h⟩
      have hT49 := cT.le (C := C) hT11 hL47
      have hT50 := cT.le (C := C) hT12 hL47
      have hT51 := cT.le (C := C) hT48 hL47
      show cG _ _ _ _ _ _ [.int z46] _
      obtain ⟨hb52, h⟩ := h
      exact ag_ret (v := some (.int z46)) dX1_examineCall_70 ⟨_, rfl, rB_n hb52⟩ ⟨_, rfl, _, rfl, h⟩ rfl
theorem dX1_refuse_0 : decode cX1_refuse 0 = .ok (.aload_n 0, 1) := by decide +kernel
theorem dX1_refuse_1 : decode cX1_refuse 1 = .ok (.aload_n 1, 1) := by decide +kernel
theorem dX1_refuse_2 : decode cX1_refuse 2 = .ok (.getfield 190, 3) := by decide +kernel
theorem dX1_refuse_5 : decode cX1_refuse 5 = .ok (.putfield 39, 3) := by decide +kernel
theorem dX1_refuse_8 : decode cX1_refuse 8 = .ok (.iconst 0, 1) := by decide +kernel
theorem dX1_refuse_9 : decode cX1_refuse 9 = .ok (.ireturn, 1) := by decide +kernel
set_option maxRecDepth 20000 in
set_option maxHeartbeats 4000000 in
theorem w_X1_refuse {c : cX} {d : Nat} {C : cS} {K : Option Value → cS → Prop} (t : Nat) (p0 : Option Nat) (h : ∃ a1 : Nat, p0 = some a1 ∧ (cT C a1 5 7 ∧ (cT C t 1 7 ∧ (K (some (.int 0)) (csi C t 6 (cI C a1 1)))))) : cM c d eX1_refuse [.ref t, va_rf p0] C K := by
  refine cM.of2 (lv := [some (.ref t), some (va_rf p0)]) (by decide) (by simp only [am_sl_i, am_sl_r, am_sl_l, am_sl_o, am_sl_n]; exact Nat.le_of_ble_eq_true rfl) (by simp only [am_en, am_sl_i, am_sl_r, am_sl_l, am_sl_o, am_sl_n]; rfl) ?_
  refine ag_aload_n dX1_refuse_0 rfl (Or.inr ⟨_, rfl⟩) ?_
  refine ag_aload_n dX1_refuse_1 rfl (va_rf_or _) ?_
  obtain ⟨a1, hr2, h⟩ := h
  refine cr_stk (st' := [.ref a1, .ref t]) (by rw [hr2]; rfl) ?_
  obtain ⟨hT3, h⟩ := h
  refine cr_get (v := .int (cI C a1 1)) dX1_refuse_2 fw_1_190 hT3 rfl ?_
  obtain ⟨hT4, h⟩ := h
  refine cr_pi (C2 := (csi C t 6 (cI C a1 1))) dX1_refuse_5 pw_1_39 rfl hT4 (fun _ => ⟨rfl, rfl⟩) rfl ?_
  refine ag_iconst (v := 0) dX1_refuse_8 rfl ?_
  exact ag_ret (v := some (.int 0)) dX1_refuse_9 ⟨_, rfl, rB_n (Or.inl rfl)⟩ ⟨_, rfl, _, rfl, h⟩ rfl
theorem dX2_init_0 : decode cX2_init 0 = .ok (.aload_n 0, 1) := by decide +kernel
theorem dX2_init_1 : decode cX2_init 1 = .ok (.invokespecial 3, 3) := by decide +kernel
theorem dX2_init_4 : decode cX2_init 4 = .ok (.aload_n 0, 1) := by decide +kernel
theorem dX2_init_5 : decode cX2_init 5 = .ok (.iconst 0, 1) := by decide +kernel
theorem dX2_init_6 : decode cX2_init 6 = .ok (.putfield 9, 3) := by decide +kernel
theorem dX2_init_9 : decode cX2_init 9 = .ok (.aload_n 0, 1) := by decide +kernel
theorem dX2_init_10 : decode cX2_init 10 = .ok (.iconst (-1), 1) := by decide +kernel
theorem dX2_init_11 : decode cX2_init 11 = .ok (.putfield 15, 3) := by decide +kernel
theorem dX2_init_14 : decode cX2_init 14 = .ok (.aload_n 0, 1) := by decide +kernel
theorem dX2_init_15 : decode cX2_init 15 = .ok (.new 18, 3) := by decide +kernel
theorem dX2_init_18 : decode cX2_init 18 = .ok (.dup, 1) := by decide +kernel
theorem dX2_init_19 : decode cX2_init 19 = .ok (.invokespecial 20, 3) := by decide +kernel
theorem dX2_init_22 : decode cX2_init 22 = .ok (.putfield 21, 3) := by decide +kernel
theorem dX2_init_25 : decode cX2_init 25 = .ok (.aload_n 0, 1) := by decide +kernel
theorem dX2_init_26 : decode cX2_init 26 = .ok (.new 18, 3) := by decide +kernel
theorem dX2_init_29 : decode cX2_init 29 = .ok (.dup, 1) := by decide +kernel
theorem dX2_init_30 : decode cX2_init 30 = .ok (.invokespecial 20, 3) := by decide +kernel
theorem dX2_init_33 : decode cX2_init 33 = .ok (.putfield 25, 3) := by decide +kernel
theorem dX2_init_36 : decode cX2_init 36 = .ok (.return_, 1) := by decide +kernel
set_option maxRecDepth 20000 in
set_option maxHeartbeats 4000000 in
theorem w_X2_init {c : cX} {d : Nat} {C : cS} {K : Option Value → cS → Prop} (t : Nat) (hT0 : cT C t 2 4) (h : cM c d eX8_init (.ref ((csi (csi C t 0 0) t 1 (-1)).1) :: []) (cnw (csi (csi C t 0 0) t 1 (-1)) 8 2) (fun v C3 => v = none ∧ cle (cnw (csi (csi C t 0 0) t 1 (-1)) 8 2) C3 ∧ (cM c d eX8_init (.ref ((csr C3 t 2 (some ((csi (csi C t 0 0) t 1 (-1)).1))).1) :: []) (cnw (csr C3 t 2 (some ((csi (csi C t 0 0) t 1 (-1)).1))) 8 2) (fun v C11 => v = none ∧ cle (cnw (csr C3 t 2 (some ((csi (csi C t 0 0) t 1 (-1)).1))) 8 2) C11 ∧ (K none (csr C11 t 3 (some ((csr C3 t 2 (some ((csi (csi C t 0 0) t 1 (-1)).1))).1)))))))) : cM c (d + 1) eX2_init [.ref t] C K := by
  refine cM.of2 (lv := [some (.ref t)]) (by decide) (Nat.le_of_ble_eq_true rfl) rfl ?_
  refine ag_aload_n dX2_init_0 rfl (Or.inr ⟨_, rfl⟩) ?_
  refine ag_obj dX2_init_1 lo_2_3 io_1 io_2 (Nat.le_of_ble_eq_true rfl) ?_
  refine ag_aload_n dX2_init_4 rfl (Or.inr ⟨_, rfl⟩) ?_
  refine ag_iconst (v := 0) dX2_init_5 rfl ?_
  refine cr_pi (C2 := (csi C t 0 0)) dX2_init_6 pw_2_9 rfl hT0 (fun _ => ⟨rfl, rfl⟩) rfl ?_
  refine ag_aload_n dX2_init_9 rfl (Or.inr ⟨_, rfl⟩) ?_
  refine ag_iconst (v := (-1)) dX2_init_10 rfl ?_
  refine cr_pi (C2 := (csi (csi C t 0 0) t 1 (-1))) dX2_init_11 pw_2_15 rfl hT0 (fun _ => ⟨rfl, rfl⟩) rfl ?_
  refine ag_aload_n dX2_init_14 rfl (Or.inr ⟨_, rfl⟩) ?_
  refine cr_new (C2 := (cnw (csi (csi C t 0 0) t 1 (-1)) 8 2)) dX2_init_15 nw_2_18 nf_8 rfl ?_
  have hT1 := cT_nw (C := (csi (csi C t 0 0) t 1 (-1))) (t := 8) (n := 2) hT0
  have hT2 := cT.le (C := (csi (csi C t 0 0) t 1 (-1))) hT0 (cle_nw (csi (csi C t 0 0) t 1 (-1)) 8 2)
  refine ag_dup dX2_init_18 rfl ?_
  refine cr_callIN (as := []) (rest := [.ref ((csi (csi C t 0 0) t 1 (-1)).1), .ref t]) dX2_init_19 me_X8_init mn_X8_init ln_2_20 rfl rfl (Nat.le_of_ble_eq_true rfl) ?_
  refine cM.mono h ?_
  rintro v C3 ⟨rfl, hL5, h⟩
  have hT6 := cT.le (C := (cnw (csi (csi C t 0 0) t 1 (-1)) 8 2)) hT2 hL5
  have hT7 := cT.le (C := (cnw (csi (csi C t 0 0) t 1 (-1)) 8 2)) hT1 hL5
  show cG _ _ _ _ _ _ [.ref ((csi (csi C t 0 0) t 1 (-1)).1), .ref t] _
  refine cr_prF (r := (some ((csi (csi C t 0 0) t 1 (-1)).1))) (C2 := (csr C3 t 2 (some ((csi (csi C t 0 0) t 1 (-1)).1)))) dX2_init_22 rfl pw_2_21 rfl (Or.inl ⟨_, rfl⟩) hT6 rfl ?_
  refine ag_aload_n dX2_init_25 rfl (Or.inr ⟨_, rfl⟩) ?_
  refine cr_new (C2 := (cnw (csr C3 t 2 (some ((csi (csi C t 0 0) t 1 (-1)).1))) 8 2)) dX2_init_26 nw_2_18 nf_8 rfl ?_
  have hT8 := cT_nw (C := (csr C3 t 2 (some ((csi (csi C t 0 0) t 1 (-1)).1)))) (t := 8) (n := 2) hT6
  have hT9 := cT.le (C := (csr C3 t 2 (some ((csi (csi C t 0 0) t 1 (-1)).1)))) hT6 (cle_nw (csr C3 t 2 (some ((csi (csi C t 0 0) t 1 (-1)).1))) 8 2)
  have hT10 := cT.le (C := (csr C3 t 2 (some ((csi (csi C t 0 0) t 1 (-1)).1)))) hT7 (cle_nw (csr C3 t 2 (some ((csi (csi C t 0 0) t 1 (-1)).1))) 8 2)
  refine ag_dup dX2_init_29 rfl ?_
  refine cr_callIN (as := []) (rest := [.ref ((csr C3 t 2 (some ((csi (csi C t 0 0) t 1 (-1)).1))).1), .ref t]) dX2_init_30 me_X8_init mn_X8_init ln_2_20 rfl rfl (Nat.le_of_ble_eq_true rfl) ?_
  refine cM.mono h ?_
  rintro v C11 ⟨rfl, hL13, h⟩
  have hT14 := cT.le (C := (cnw (csr C3 t 2 (some ((csi (csi C t 0 0) t 1 (-1)).1))) 8 2)) hT9 hL13
  have hT15 := cT.le (C := (cnw (csr C3 t 2 (some ((csi (csi C t 0 0) t 1 (-1)).1))) 8 2)) hT10 hL13
  have hT16 := cT.le (C := (cnw (csr C3 t 2 (some ((csi (csi C t 0 0) t 1 (-1)).1))) 8 2)) hT8 hL13
  show cG _ _ _ _ _ _ [.ref ((csr C3 t 2 (some ((csi (csi C t 0 0) t 1 (-1)).1))).1), .ref t] _
  refine cr_prF (r := (some ((csr C3 t 2 (some ((csi (csi C t 0 0) t 1 (-1)).1))).1))) (C2 := (csr C11 t 3 (some ((csr C3 t 2 (some ((csi (csi C t 0 0) t 1 (-1)).1))).1)))) dX2_init_33 rfl pw_2_25 rfl (Or.inl ⟨_, rfl⟩) hT14 rfl ?_
  exact ag_ret (v := none) dX2_init_36 rfl ⟨_, rfl, _, rfl, h⟩ rfl
theorem dX2_assign_0 : decode cX2_assign 0 = .ok (.aload_n 0, 1) := by decide +kernel
theorem dX2_assign_1 : decode cX2_assign 1 = .ok (.iload_n 1, 1) := by decide +kernel
theorem dX2_assign_2 : decode cX2_assign 2 = .ok (.putfield 9, 3) := by decide +kernel
theorem dX2_assign_5 : decode cX2_assign 5 = .ok (.aload_n 0, 1) := by decide +kernel
theorem dX2_assign_6 : decode cX2_assign 6 = .ok (.iload_n 2, 1) := by decide +kernel
theorem dX2_assign_7 : decode cX2_assign 7 = .ok (.putfield 15, 3) := by decide +kernel
theorem dX2_assign_10 : decode cX2_assign 10 = .ok (.aload_n 0, 1) := by decide +kernel
theorem dX2_assign_11 : decode cX2_assign 11 = .ok (.getfield 21, 3) := by decide +kernel
theorem dX2_assign_14 : decode cX2_assign 14 = .ok (.aload_n 3, 1) := by decide +kernel
theorem dX2_assign_15 : decode cX2_assign 15 = .ok (.invokevirtual 28, 3) := by decide +kernel
theorem dX2_assign_18 : decode cX2_assign 18 = .ok (.aload_n 0, 1) := by decide +kernel
theorem dX2_assign_19 : decode cX2_assign 19 = .ok (.getfield 25, 3) := by decide +kernel
theorem dX2_assign_22 : decode cX2_assign 22 = .ok (.aload_n 3, 1) := by decide +kernel
theorem dX2_assign_23 : decode cX2_assign 23 = .ok (.invokevirtual 28, 3) := by decide +kernel
theorem dX2_assign_26 : decode cX2_assign 26 = .ok (.return_, 1) := by decide +kernel
set_option maxRecDepth 20000 in
set_option maxHeartbeats 4000000 in
theorem w_X2_assign {c : cX} {d : Nat} {C : cS} {K : Option Value → cS → Prop} (t : Nat) (p0 : Int32) (p1 : Int32) (p2 : Option Nat) (h : cT C t 2 4 ∧ (∃ a2 : Nat, (cR C t 2) = some a2 ∧ (cT C a2 8 2 ∧ (cM c d eX8_copy (.ref a2 :: [va_rf p2]) (csi (csi C t 0 p0) t 1 p1) (fun v C4 => v = none ∧ cle (csi (csi C t 0 p0) t 1 p1) C4 ∧ (∃ a10 : Nat, (cR C4 t 3) = some a10 ∧ (cT C4 a10 8 2 ∧ (cM c d eX8_copy (.ref a10 :: [va_rf p2]) C4 (fun v C12 => v = none ∧ cle C4 C12 ∧ (K none C12)))))))))) : cM c (d + 1) eX2_assign [.ref t, .int p0, .int p1, va_rf p2] C K := by
  refine cM.of2 (lv := [some (.ref t), some (.int p0), some (.int p1), some (va_rf p2)]) (by decide) (by simp only [am_sl_i, am_sl_r, am_sl_l, am_sl_o, am_sl_n]; exact Nat.le_of_ble_eq_true rfl) (by simp only [am_en, am_sl_i, am_sl_r, am_sl_l, am_sl_o, am_sl_n]; rfl) ?_
  refine ag_aload_n dX2_assign_0 rfl (Or.inr ⟨_, rfl⟩) ?_
  refine ag_iload_n dX2_assign_1 rfl ?_
  obtain ⟨hT1, h⟩ := h
  refine cr_pi (C2 := (csi C t 0 p0)) dX2_assign_2 pw_2_9 rfl hT1 (fun _ => ⟨rfl, rfl⟩) rfl ?_
  refine ag_aload_n dX2_assign_5 rfl (Or.inr ⟨_, rfl⟩) ?_
  refine ag_iload_n dX2_assign_6 rfl ?_
  refine cr_pi (C2 := (csi (csi C t 0 p0) t 1 p1)) dX2_assign_7 pw_2_15 rfl hT1 (fun _ => ⟨rfl, rfl⟩) rfl ?_
  refine ag_aload_n dX2_assign_10 rfl (Or.inr ⟨_, rfl⟩) ?_
  refine cr_get (v := va_rf (cR C t 2)) dX2_assign_11 fw_2_21 hT1 rfl ?_
  refine ag_aload_n dX2_assign_14 rfl (va_rf_or _) ?_
  obtain ⟨a2, hr3, h⟩ := h
  refine cr_stk (st' := [va_rf p2, .ref a2]) (by rw [hr3]; rfl) ?_
  obtain ⟨hT7, h⟩ := h
  refine cr_callV (as := [va_rf p2]) (rest := []) dX2_assign_15 me_X8_copy mi_X8_copy lk_2_28 hT7 rfl rfl (Nat.le_of_ble_eq_true rfl) ?_
  refine cM.mono h ?_
  rintro v C4 ⟨rfl, hL6, h⟩
  have hT8 := cT.le (C := (csi (csi C t 0 p0) t 1 p1)) hT1 hL6
  have hT9 := cT.le (C := (csi (csi C t 0 p0) t 1 p1)) hT7 hL6
  show cG _ _ _ _ _ _ [] _
  refine ag_aload_n dX2_assign_18 rfl (Or.inr ⟨_, rfl⟩) ?_
  refine cr_get (v := va_rf (cR C4 t 3)) dX2_assign_19 fw_2_25 hT8 rfl ?_
  refine ag_aload_n dX2_assign_22 rfl (va_rf_or _) ?_
  obtain ⟨a10, hr11, h⟩ := h
  refine cr_stk (st' := [va_rf p2, .ref a10]) (by rw [hr11]; rfl) ?_
  obtain ⟨hT15, h⟩ := h
  refine cr_callV (as := [va_rf p2]) (rest := []) dX2_assign_23 me_X8_copy mi_X8_copy lk_2_28 hT15 rfl rfl (Nat.le_of_ble_eq_true rfl) ?_
  refine cM.mono h ?_
  rintro v C12 ⟨rfl, hL14, h⟩
  have hT16 := cT.le (C := C4) hT8 hL14
  have hT17 := cT.le (C := C4) hT9 hL14
  have hT18 := cT.le (C := C4) hT15 hL14
  show cG _ _ _ _ _ _ [] _
  exact ag_ret (v := none) dX2_assign_26 rfl ⟨_, rfl, _, rfl, h⟩ rfl
theorem dX2_beUnchecked_0 : decode cX2_beUnchecked 0 = .ok (.aload_n 0, 1) := by decide +kernel
theorem dX2_beUnchecked_1 : decode cX2_beUnchecked 1 = .ok (.iconst 0, 1) := by decide +kernel
theorem dX2_beUnchecked_2 : decode cX2_beUnchecked 2 = .ok (.putfield 9, 3) := by decide +kernel
theorem dX2_beUnchecked_5 : decode cX2_beUnchecked 5 = .ok (.aload_n 0, 1) := by decide +kernel
theorem dX2_beUnchecked_6 : decode cX2_beUnchecked 6 = .ok (.iconst (-1), 1) := by decide +kernel
theorem dX2_beUnchecked_7 : decode cX2_beUnchecked 7 = .ok (.putfield 15, 3) := by decide +kernel
theorem dX2_beUnchecked_10 : decode cX2_beUnchecked 10 = .ok (.aload_n 0, 1) := by decide +kernel
theorem dX2_beUnchecked_11 : decode cX2_beUnchecked 11 = .ok (.getfield 21, 3) := by decide +kernel
theorem dX2_beUnchecked_14 : decode cX2_beUnchecked 14 = .ok (.invokevirtual 32, 3) := by decide +kernel
theorem dX2_beUnchecked_17 : decode cX2_beUnchecked 17 = .ok (.aload_n 0, 1) := by decide +kernel
theorem dX2_beUnchecked_18 : decode cX2_beUnchecked 18 = .ok (.getfield 25, 3) := by decide +kernel
theorem dX2_beUnchecked_21 : decode cX2_beUnchecked 21 = .ok (.invokevirtual 32, 3) := by decide +kernel
theorem dX2_beUnchecked_24 : decode cX2_beUnchecked 24 = .ok (.return_, 1) := by decide +kernel
set_option maxRecDepth 20000 in
set_option maxHeartbeats 4000000 in
theorem w_X2_beUnchecked {c : cX} {d : Nat} {C : cS} {K : Option Value → cS → Prop} (t : Nat) (h : cT C t 2 4 ∧ (∃ a2 : Nat, (cR C t 2) = some a2 ∧ (cT C a2 8 2 ∧ (cM c d eX8_sayNothing (.ref a2 :: []) (csi (csi C t 0 0) t 1 (-1)) (fun v C4 => v = none ∧ cle (csi (csi C t 0 0) t 1 (-1)) C4 ∧ (∃ a10 : Nat, (cR C4 t 3) = some a10 ∧ (cT C4 a10 8 2 ∧ (cM c d eX8_sayNothing (.ref a10 :: []) C4 (fun v C12 => v = none ∧ cle C4 C12 ∧ (K none C12)))))))))) : cM c (d + 1) eX2_beUnchecked [.ref t] C K := by
  refine cM.of2 (lv := [some (.ref t)]) (by decide) (Nat.le_of_ble_eq_true rfl) rfl ?_
  refine ag_aload_n dX2_beUnchecked_0 rfl (Or.inr ⟨_, rfl⟩) ?_
  refine ag_iconst (v := 0) dX2_beUnchecked_1 rfl ?_
  obtain ⟨hT1, h⟩ := h
  refine cr_pi (C2 := (csi C t 0 0)) dX2_beUnchecked_2 pw_2_9 rfl hT1 (fun _ => ⟨rfl, rfl⟩) rfl ?_
  refine ag_aload_n dX2_beUnchecked_5 rfl (Or.inr ⟨_, rfl⟩) ?_
  refine ag_iconst (v := (-1)) dX2_beUnchecked_6 rfl ?_
  refine cr_pi (C2 := (csi (csi C t 0 0) t 1 (-1))) dX2_beUnchecked_7 pw_2_15 rfl hT1 (fun _ => ⟨rfl, rfl⟩) rfl ?_
  refine ag_aload_n dX2_beUnchecked_10 rfl (Or.inr ⟨_, rfl⟩) ?_
  refine cr_get (v := va_rf (cR C t 2)) dX2_beUnchecked_11 fw_2_21 hT1 rfl ?_
  obtain ⟨a2, hr3, h⟩ := h
  refine cr_stk (st' := [.ref a2]) (by rw [hr3]; rfl) ?_
  obtain ⟨hT7, h⟩ := h
  refine cr_callV (as := []) (rest := []) dX2_beUnchecked_14 me_X8_sayNothing mi_X8_sayNothing lk_2_32 hT7 rfl rfl (Nat.le_of_ble_eq_true rfl) ?_
  refine cM.mono h ?_
  rintro v C4 ⟨rfl, hL6, h⟩
  have hT8 := cT.le (C := (csi (csi C t 0 0) t 1 (-1))) hT1 hL6
  have hT9 := cT.le (C := (csi (csi C t 0 0) t 1 (-1))) hT7 hL6
  show cG _ _ _ _ _ _ [] _
  refine ag_aload_n dX2_beUnchecked_17 rfl (Or.inr ⟨_, rfl⟩) ?_
  refine cr_get (v := va_rf (cR C4 t 3)) dX2_beUnchecked_18 fw_2_25 hT8 rfl ?_
  obtain ⟨a10, hr11, h⟩ := h
  refine cr_stk (st' := [.ref a10]) (by rw [hr11]; rfl) ?_
  obtain ⟨hT15, h⟩ := h
  refine cr_callV (as := []) (rest := []) dX2_beUnchecked_21 me_X8_sayNothing mi_X8_sayNothing lk_2_32 hT15 rfl rfl (Nat.le_of_ble_eq_true rfl) ?_
  refine cM.mono h ?_
  rintro v C12 ⟨rfl, hL14, h⟩
  have hT16 := cT.le (C := C4) hT8 hL14
  have hT17 := cT.le (C := C4) hT9 hL14
  have hT18 := cT.le (C := C4) hT15 hL14
  show cG _ _ _ _ _ _ [] _
  exact ag_ret (v := none) dX2_beUnchecked_24 rfl ⟨_, rfl, _, rfl, h⟩ rfl
theorem dX2_settle_0 : decode cX2_settle 0 = .ok (.aload_n 0, 1) := by decide +kernel
theorem dX2_settle_1 : decode cX2_settle 1 = .ok (.getfield 9, 3) := by decide +kernel
theorem dX2_settle_4 : decode cX2_settle 4 = .ok (.iconst 4, 1) := by decide +kernel
theorem dX2_settle_5 : decode cX2_settle 5 = .ok (.iand, 1) := by decide +kernel
theorem dX2_settle_6 : decode cX2_settle 6 = .ok (.ifCond .ne 10, 3) := by decide +kernel
theorem dX2_settle_9 : decode cX2_settle 9 = .ok (.aload_n 0, 1) := by decide +kernel
theorem dX2_settle_10 : decode cX2_settle 10 = .ok (.getfield 25, 3) := by decide +kernel
theorem dX2_settle_13 : decode cX2_settle 13 = .ok (.invokevirtual 32, 3) := by decide +kernel
theorem dX2_settle_16 : decode cX2_settle 16 = .ok (.aload_n 0, 1) := by decide +kernel
theorem dX2_settle_17 : decode cX2_settle 17 = .ok (.getfield 9, 3) := by decide +kernel
theorem dX2_settle_20 : decode cX2_settle 20 = .ok (.bipush 27, 2) := by decide +kernel
theorem dX2_settle_22 : decode cX2_settle 22 = .ok (.iand, 1) := by decide +kernel
theorem dX2_settle_23 : decode cX2_settle 23 = .ok (.ifCond .ne 10, 3) := by decide +kernel
theorem dX2_settle_26 : decode cX2_settle 26 = .ok (.aload_n 0, 1) := by decide +kernel
theorem dX2_settle_27 : decode cX2_settle 27 = .ok (.getfield 21, 3) := by decide +kernel
theorem dX2_settle_30 : decode cX2_settle 30 = .ok (.invokevirtual 32, 3) := by decide +kernel
theorem dX2_settle_33 : decode cX2_settle 33 = .ok (.return_, 1) := by decide +kernel
set_option maxRecDepth 20000 in
set_option maxHeartbeats 4000000 in
theorem w_X2_settle {c : cX} {d : Nat} {C : cS} {K : Option Value → cS → Prop} (t : Nat) (h : cT C t 2 4 ∧ ((¬ ((cI C t 0) &&& 4) = 0 → (cG c eX2_settle (d + 1) (cQ K) 16 [some (.ref t)] [] C)) ∧ (((cI C t 0) &&& 4) = 0 → (∃ a3 : Nat, (cR C t 3) = some a3 ∧ (cT C a3 8 2 ∧ (cM c d eX8_sayNothing (.ref a3 :: []) C (fun v C5 => v = none ∧ cle C C5 ∧ (cG c eX2_settle (d + 1) (cQ K) 16 [some (.ref t)] [] C5)))))))) : cM c (d + 1) eX2_settle [.ref t] C K := by
  refine cM.of2 (lv := [some (.ref t)]) (by decide) (Nat.le_of_ble_eq_true rfl) rfl ?_
  refine ag_aload_n dX2_settle_0 rfl (Or.inr ⟨_, rfl⟩) ?_
  obtain ⟨hT1, h⟩ := h
  refine cr_get (v := .int (cI C t 0)) dX2_settle_1 fw_2_9 hT1 rfl ?_
  refine ag_iconst (v := 4) dX2_settle_4 rfl ?_
  refine ag_iand dX2_settle_5 rfl ?_
  refine ag_if_ne (tgt := 16) dX2_settle_6 rfl (fun hc2 => ?_) (fun hc2 => ?_)
  · have h := h.1 hc2
    exact h
  · have h := h.2 hc2
    refine ag_aload_n dX2_settle_9 rfl (Or.inr ⟨_, rfl⟩) ?_
    refine cr_get (v := va_rf (cR C t 3)) dX2_settle_10 fw_2_25 hT1 rfl ?_
    obtain ⟨a3, hr4, h⟩ := h
    refine cr_stk (st' := [.ref a3]) (by rw [hr4]; rfl) ?_
    obtain ⟨hT8, h⟩ := h
    refine cr_callV (as := []) (rest := []) dX2_settle_13 me_X8_sayNothing mi_X8_sayNothing lk_2_32 hT8 rfl rfl (Nat.le_of_ble_eq_true rfl) ?_
    refine cM.mono h ?_
    rintro v C5 ⟨rfl, hL7, h⟩
    have hT9 := cT.le (C := C) hT1 hL7
    have hT10 := cT.le (C := C) hT8 hL7
    show cG _ _ _ _ _ _ [] _
    exact h
set_option maxRecDepth 20000 in
set_option maxHeartbeats 4000000 in
theorem w_X2_settle_16 {c : cX} {d : Nat} {C : cS} {K : Option Value → cS → Prop} (t : Nat) (h : cT C t 2 4 ∧ ((¬ ((cI C t 0) &&& 27) = 0 → (K none C)) ∧ (((cI C t 0) &&& 27) = 0 → (∃ a3 : Nat, (cR C t 2) = some a3 ∧ (cT C a3 8 2 ∧ (cM c d eX8_sayNothing (.ref a3 :: []) C (fun v C5 => v = none ∧ cle C C5 ∧ (K none C5)))))))) : cG c eX2_settle (d + 1) (cQ K) 16 [some (.ref t)] [] C := by
  refine ag_aload_n dX2_settle_16 rfl (Or.inr ⟨_, rfl⟩) ?_
  obtain ⟨hT1, h⟩ := h
  refine cr_get (v := .int (cI C t 0)) dX2_settle_17 fw_2_9 hT1 rfl ?_
  refine ag_bipush (v := 27) dX2_settle_20 (by decide) ?_
  refine ag_iand dX2_settle_22 rfl ?_
  refine ag_if_ne (tgt := 33) dX2_settle_23 rfl (fun hc2 => ?_) (fun hc2 => ?_)
  · have h := h.1 hc2
    exact ag_ret (v := none) dX2_settle_33 rfl ⟨_, rfl, _, rfl, h⟩ rfl
  · have h := h.2 hc2
    refine ag_aload_n dX2_settle_26 rfl (Or.inr ⟨_, rfl⟩) ?_
    refine cr_get (v := va_rf (cR C t 2)) dX2_settle_27 fw_2_21 hT1 rfl ?_
    obtain ⟨a3, hr4, h⟩ := h
    refine cr_stk (st' := [.ref a3]) (by rw [hr4]; rfl) ?_
    obtain ⟨hT8, h⟩ := h
    refine cr_callV (as := []) (rest := []) dX2_settle_30 me_X8_sayNothing mi_X8_sayNothing lk_2_32 hT8 rfl rfl (Nat.le_of_ble_eq_true rfl) ?_
    refine cM.mono h ?_
    rintro v C5 ⟨rfl, hL7, h⟩
    have hT9 := cT.le (C := C) hT1 hL7
    have hT10 := cT.le (C := C) hT8 hL7
    show cG _ _ _ _ _ _ [] _
    exact ag_ret (v := none) dX2_settle_33 rfl ⟨_, rfl, _, rfl, h⟩ rfl
theorem dX3_init_0 : decode cX3_init 0 = .ok (.aload_n 0, 1) := by decide +kernel
theorem dX3_init_1 : decode cX3_init 1 = .ok (.invokespecial 1, 3) := by decide +kernel
theorem dX3_init_4 : decode cX3_init 4 = .ok (.aload_n 0, 1) := by decide +kernel
theorem dX3_init_5 : decode cX3_init 5 = .ok (.aload_n 1, 1) := by decide +kernel
theorem dX3_init_6 : decode cX3_init 6 = .ok (.putfield 7, 3) := by decide +kernel
theorem dX3_init_9 : decode cX3_init 9 = .ok (.aload_n 0, 1) := by decide +kernel
theorem dX3_init_10 : decode cX3_init 10 = .ok (.iload_n 2, 1) := by decide +kernel
theorem dX3_init_11 : decode cX3_init 11 = .ok (.putfield 13, 3) := by decide +kernel
theorem dX3_init_14 : decode cX3_init 14 = .ok (.aload_n 0, 1) := by decide +kernel
theorem dX3_init_15 : decode cX3_init 15 = .ok (.aload_n 3, 1) := by decide +kernel
theorem dX3_init_16 : decode cX3_init 16 = .ok (.getfield 17, 3) := by decide +kernel
theorem dX3_init_19 : decode cX3_init 19 = .ok (.putfield 22, 3) := by decide +kernel
theorem dX3_init_22 : decode cX3_init 22 = .ok (.aload_n 0, 1) := by decide +kernel
theorem dX3_init_23 : decode cX3_init 23 = .ok (.aload_n 3, 1) := by decide +kernel
theorem dX3_init_24 : decode cX3_init 24 = .ok (.getfield 23, 3) := by decide +kernel
theorem dX3_init_27 : decode cX3_init 27 = .ok (.iconst 0, 1) := by decide +kernel
theorem dX3_init_28 : decode cX3_init 28 = .ok (.invokevirtual 27, 3) := by decide +kernel
theorem dX3_init_31 : decode cX3_init 31 = .ok (.putfield 33, 3) := by decide +kernel
theorem dX3_init_34 : decode cX3_init 34 = .ok (.aload_n 0, 1) := by decide +kernel
theorem dX3_init_35 : decode cX3_init 35 = .ok (.aload_n 3, 1) := by decide +kernel
theorem dX3_init_36 : decode cX3_init 36 = .ok (.getfield 37, 3) := by decide +kernel
theorem dX3_init_39 : decode cX3_init 39 = .ok (.iconst 0, 1) := by decide +kernel
theorem dX3_init_40 : decode cX3_init 40 = .ok (.invokevirtual 27, 3) := by decide +kernel
theorem dX3_init_43 : decode cX3_init 43 = .ok (.putfield 40, 3) := by decide +kernel
theorem dX3_init_46 : decode cX3_init 46 = .ok (.return_, 1) := by decide +kernel
set_option maxRecDepth 20000 in
set_option maxHeartbeats 4000000 in
theorem w_X3_init {c : cX} {d : Nat} {C : cS} {K : Option Value → cS → Prop} (t : Nat) (p0 : Option Nat) (p1 : Int32) (p2 : Option Nat) (h : cT C t 3 5 ∧ (∃ a2 : Nat, p2 = some a2 ∧ (cT C a2 2 4 ∧ (∃ a5 : Nat, (cR C a2 2) = some a5 ∧ (cT C a5 8 2 ∧ (cM c d eX8_word (.ref a5 :: [.int 0]) (csi (csi (csr C t 0 p0) t 1 p1) t 2 (cI C a2 0)) (fun v C7 => ∃ z8 : Int64, v = some (.long z8) ∧ cle (csi (csi (csr C t 0 p0) t 1 p1) t 2 (cI C a2 0)) C7 ∧ (∃ a14 : Nat, (cR C7 a2 3) = some a14 ∧ (cT C7 a14 8 2 ∧ (cM c d eX8_word (.ref a14 :: [.int 0]) (csj C7 t 3 z8) (fun v C16 => ∃ z17 : Int64, v = some (.long z17) ∧ cle (csj C7 t 3 z8) C16 ∧ (K none (csj C16 t 4 z17))))))))))))) : cM c (d + 1) eX3_init [.ref t, va_rf p0, .int p1, va_rf p2] C K := by
  refine cM.of2 (lv := [some (.ref t), some (va_rf p0), some (.int p1), some (va_rf p2)]) (by decide) (by simp only [am_sl_i, am_sl_r, am_sl_l, am_sl_o, am_sl_n]; exact Nat.le_of_ble_eq_true rfl) (by simp only [am_en, am_sl_i, am_sl_r, am_sl_l, am_sl_o, am_sl_n]; rfl) ?_
  refine ag_aload_n dX3_init_0 rfl (Or.inr ⟨_, rfl⟩) ?_
  refine ag_obj dX3_init_1 lo_3_1 io_1 io_2 (Nat.le_of_ble_eq_true rfl) ?_
  refine ag_aload_n dX3_init_4 rfl (Or.inr ⟨_, rfl⟩) ?_
  refine ag_aload_n dX3_init_5 rfl (va_rf_or _) ?_
  obtain ⟨hT1, h⟩ := h
  refine cr_prF (r := p0) (C2 := (csr C t 0 p0)) dX3_init_6 rfl pw_3_7 rfl (Or.inl ⟨_, rfl⟩) hT1 rfl ?_
  refine ag_aload_n dX3_init_9 rfl (Or.inr ⟨_, rfl⟩) ?_
  refine ag_iload_n dX3_init_10 rfl ?_
  refine cr_piF (C2 := (csi (csr C t 0 p0) t 1 p1)) dX3_init_11 rfl pw_3_13 rfl hT1 (fun _ => ⟨rfl, rfl⟩) rfl ?_
  refine ag_aload_n dX3_init_14 rfl (Or.inr ⟨_, rfl⟩) ?_
  refine ag_aload_n dX3_init_15 rfl (va_rf_or _) ?_
  obtain ⟨a2, hr3, h⟩ := h
  refine cr_stk (st' := [.ref a2, .ref t]) (by rw [hr3]; rfl) ?_
  obtain ⟨hT4, h⟩ := h
  refine cr_get (v := .int (cI C a2 0)) dX3_init_16 fw_3_17 hT4 rfl ?_
  refine cr_piF (C2 := (csi (csi (csr C t 0 p0) t 1 p1) t 2 (cI C a2 0))) dX3_init_19 rfl pw_3_22 rfl hT1 (fun _ => ⟨rfl, rfl⟩) rfl ?_
  refine ag_aload_n dX3_init_22 rfl (Or.inr ⟨_, rfl⟩) ?_
  refine ag_aload_n dX3_init_23 rfl (va_rf_or _) ?_
  refine cr_stk (st' := [.ref a2, .ref t]) (by rw [hr3]; rfl) ?_
  refine cr_get (v := va_rf (cR C a2 2)) dX3_init_24 fw_3_23 hT4 rfl ?_
  refine ag_iconst (v := 0) dX3_init_27 rfl ?_
  obtain ⟨a5, hr6, h⟩ := h
  refine cr_stk (st' := [.int 0, .ref a5, .ref t]) (by rw [hr6]; rfl) ?_
  obtain ⟨hT10, h⟩ := h
  refine cr_callV (as := [.int 0]) (rest := [.ref t]) dX3_init_28 me_X8_word mi_X8_word lk_3_27 hT10 rfl rfl (Nat.le_of_ble_eq_true rfl) ?_
  refine cM.mono h ?_
  rintro v C7 ⟨z8, rfl, hL9, h⟩
  have hT11 := cT.le (C := (csi (csi (csr C t 0 p0) t 1 p1) t 2 (cI C a2 0))) hT1 hL9
  have hT12 := cT.le (C := (csi (csi (csr C t 0 p0) t 1 p1) t 2 (cI C a2 0))) hT4 hL9
  have hT13 := cT.le (C := (csi (csi (csr C t 0 p0) t 1 p1) t 2 (cI C a2 0))) hT10 hL9
  show cG _ _ _ _ _ _ [.long z8, .ref t] _
  refine cr_pjF (C2 := (csj C7 t 3 z8)) dX3_init_31 rfl pw_3_33 rfl hT11 rfl ?_
  refine ag_aload_n dX3_init_34 rfl (Or.inr ⟨_, rfl⟩) ?_
  refine ag_aload_n dX3_init_35 rfl (va_rf_or _) ?_
  refine cr_stk (st' := [.ref a2, .ref t]) (by rw [hr3]; rfl) ?_
  refine cr_get (v := va_rf (cR C7 a2 3)) dX3_init_36 fw_3_37 hT12 rfl ?_
  refine ag_iconst (v := 0) dX3_init_39 rfl ?_
  obtain ⟨a14, hr15, h⟩ := h
  refine cr_stk (st' := [.int 0, .ref a14, .ref t]) (by rw [hr15]; rfl) ?_
  obtain ⟨hT19, h⟩ := h
  refine cr_callV (as := [.int 0]) (rest := [.ref t]) dX3_init_40 me_X8_word mi_X8_word lk_3_27 hT19 rfl rfl (Nat.le_of_ble_eq_true rfl) ?_
  refine cM.mono h ?_
  rintro v C16 ⟨z17, rfl, hL18, h⟩
  have hT20 := cT.le (C := (csj C7 t 3 z8)) hT11 hL18
  have hT21 := cT.le (C := (csj C7 t 3 z8)) hT12 hL18
  have hT22 := cT.le (C := (csj C7 t 3 z8)) hT13 hL18
  have hT23 := cT.le (C := (csj C7 t 3 z8)) hT19 hL18
  show cG _ _ _ _ _ _ [.long z17, .ref t] _
  refine cr_pjF (C2 := (csj C16 t 4 z17)) dX3_init_43 rfl pw_3_40 rfl hT20 rfl ?_
  exact ag_ret (v := none) dX3_init_46 rfl ⟨_, rfl, _, rfl, h⟩ rfl
theorem dX4_init_0 : decode cX4_init 0 = .ok (.aload_n 0, 1) := by decide +kernel
theorem dX4_init_1 : decode cX4_init 1 = .ok (.invokespecial 3, 3) := by decide +kernel
theorem dX4_init_4 : decode cX4_init 4 = .ok (.aload_n 0, 1) := by decide +kernel
theorem dX4_init_5 : decode cX4_init 5 = .ok (.aload_n 1, 1) := by decide +kernel
theorem dX4_init_6 : decode cX4_init 6 = .ok (.putfield 9, 3) := by decide +kernel
theorem dX4_init_9 : decode cX4_init 9 = .ok (.aload_n 0, 1) := by decide +kernel
theorem dX4_init_10 : decode cX4_init 10 = .ok (.aload_n 2, 1) := by decide +kernel
theorem dX4_init_11 : decode cX4_init 11 = .ok (.putfield 15, 3) := by decide +kernel
theorem dX4_init_14 : decode cX4_init 14 = .ok (.aload_n 0, 1) := by decide +kernel
theorem dX4_init_15 : decode cX4_init 15 = .ok (.iload_n 3, 1) := by decide +kernel
theorem dX4_init_16 : decode cX4_init 16 = .ok (.putfield 19, 3) := by decide +kernel
theorem dX4_init_19 : decode cX4_init 19 = .ok (.aload_n 0, 1) := by decide +kernel
theorem dX4_init_20 : decode cX4_init 20 = .ok (.iconst 4, 1) := by decide +kernel
theorem dX4_init_21 : decode cX4_init 21 = .ok (.bipush 17, 2) := by decide +kernel
theorem dX4_init_23 : decode cX4_init 23 = .ok (.multianewarray 23 2, 4) := by decide +kernel
theorem dX4_init_27 : decode cX4_init 27 = .ok (.putfield 25, 3) := by decide +kernel
theorem dX4_init_30 : decode cX4_init 30 = .ok (.aload_n 0, 1) := by decide +kernel
theorem dX4_init_31 : decode cX4_init 31 = .ok (.iconst 0, 1) := by decide +kernel
theorem dX4_init_32 : decode cX4_init 32 = .ok (.putfield 28, 3) := by decide +kernel
theorem dX4_init_35 : decode cX4_init 35 = .ok (.aload_n 0, 1) := by decide +kernel
theorem dX4_init_36 : decode cX4_init 36 = .ok (.iconst 0, 1) := by decide +kernel
theorem dX4_init_37 : decode cX4_init 37 = .ok (.putfield 31, 3) := by decide +kernel
theorem dX4_init_40 : decode cX4_init 40 = .ok (.return_, 1) := by decide +kernel
set_option maxRecDepth 20000 in
set_option maxHeartbeats 4000000 in
theorem w_X4_init {c : cX} {d : Nat} {C : cS} {K : Option Value → cS → Prop} (t : Nat) (p0 : Option Nat) (p1 : Option Nat) (p2 : Int32) (hT0 : cT C t 4 6) (h : K none (csi (csi (csr (cmna (csi (csr (csr C t 0 p0) t 1 p1) t 2 p2)) t 3 (some ((csi (csr (csr C t 0 p0) t 1 p1) t 2 p2).1))) t 4 0) t 5 0)) : cM c (d + 1) eX4_init [.ref t, va_rf p0, va_rf p1, .int p2] C K := by
  refine cM.of2 (lv := [some (.ref t), some (va_rf p0), some (va_rf p1), some (.int p2)]) (by decide) (by simp only [am_sl_i, am_sl_r, am_sl_l, am_sl_o, am_sl_n]; exact Nat.le_of_ble_eq_true rfl) (by simp only [am_en, am_sl_i, am_sl_r, am_sl_l, am_sl_o, am_sl_n]; rfl) ?_
  refine ag_aload_n dX4_init_0 rfl (Or.inr ⟨_, rfl⟩) ?_
  refine ag_obj dX4_init_1 lo_4_3 io_1 io_2 (Nat.le_of_ble_eq_true rfl) ?_
  refine ag_aload_n dX4_init_4 rfl (Or.inr ⟨_, rfl⟩) ?_
  refine ag_aload_n dX4_init_5 rfl (va_rf_or _) ?_
  refine cr_prF (r := p0) (C2 := (csr C t 0 p0)) dX4_init_6 rfl pw_4_9 rfl (Or.inl ⟨_, rfl⟩) hT0 rfl ?_
  refine ag_aload_n dX4_init_9 rfl (Or.inr ⟨_, rfl⟩) ?_
  refine ag_aload_n dX4_init_10 rfl (va_rf_or _) ?_
  refine cr_prF (r := p1) (C2 := (csr (csr C t 0 p0) t 1 p1)) dX4_init_11 rfl pw_4_15 rfl (Or.inr ⟨_, rfl⟩) hT0 rfl ?_
  refine ag_aload_n dX4_init_14 rfl (Or.inr ⟨_, rfl⟩) ?_
  refine ag_iload_n dX4_init_15 rfl ?_
  refine cr_piF (C2 := (csi (csr (csr C t 0 p0) t 1 p1) t 2 p2)) dX4_init_16 rfl pw_4_19 rfl hT0 (fun _ => ⟨rfl, rfl⟩) rfl ?_
  refine ag_aload_n dX4_init_19 rfl (Or.inr ⟨_, rfl⟩) ?_
  refine ag_iconst (v := 4) dX4_init_20 rfl ?_
  refine ag_bipush (v := 17) dX4_init_21 (by decide) ?_
  refine cr_mna (C2 := (cmna (csi (csr (csr C t 0 p0) t 1 p1) t 2 p2))) dX4_init_23 mw_4_23 rfl ?_
  have hT1 := cT_mna (C := (csi (csr (csr C t 0 p0) t 1 p1) t 2 p2)) hT0
  have hT2 := cT.le (C := (csi (csr (csr C t 0 p0) t 1 p1) t 2 p2)) hT0 (cle_mna (csi (csr (csr C t 0 p0) t 1 p1) t 2 p2))
  refine cr_prF (r := (some ((csi (csr (csr C t 0 p0) t 1 p1) t 2 p2).1))) (C2 := (csr (cmna (csi (csr (csr C t 0 p0) t 1 p1) t 2 p2)) t 3 (some ((csi (csr (csr C t 0 p0) t 1 p1) t 2 p2).1)))) dX4_init_27 rfl pw_4_25 rfl (Or.inr ⟨_, rfl⟩) hT2 rfl ?_
  refine ag_aload_n dX4_init_30 rfl (Or.inr ⟨_, rfl⟩) ?_
  refine ag_iconst (v := 0) dX4_init_31 rfl ?_
  refine cr_pi (C2 := (csi (csr (cmna (csi (csr (csr C t 0 p0) t 1 p1) t 2 p2)) t 3 (some ((csi (csr (csr C t 0 p0) t 1 p1) t 2 p2).1))) t 4 0)) dX4_init_32 pw_4_28 rfl hT2 (fun _ => ⟨rfl, rfl⟩) rfl ?_
  refine ag_aload_n dX4_init_35 rfl (Or.inr ⟨_, rfl⟩) ?_
  refine ag_iconst (v := 0) dX4_init_36 rfl ?_
  refine cr_pi (C2 := (csi (csi (csr (cmna (csi (csr (csr C t 0 p0) t 1 p1) t 2 p2)) t 3 (some ((csi (csr (csr C t 0 p0) t 1 p1) t 2 p2).1))) t 4 0) t 5 0)) dX4_init_37 pw_4_31 rfl hT2 (fun _ => ⟨rfl, rfl⟩) rfl ?_
  exact ag_ret (v := none) dX4_init_40 rfl ⟨_, rfl, _, rfl, h⟩ rfl
