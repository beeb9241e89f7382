/-! More words for the class's walks (written by program). -/
theorem cT_mna {C : cS} {b t n : Nat} (h : cT C b t n) : cT (cmna C) C.1 24 4 := ⟨by have := h.2.1; omega, by show C.1 < C.1 + 5; omega, by show (if C.1 < C.1 then _ else if C.1 = C.1 then _ else _) = _; rw [if_neg (Nat.lt_irrefl _), if_pos rfl]⟩
theorem nz_0 : ∀ k, k < 6 → cz0 0 k = defaultValue (tyX0 k) := by decide +kernel
theorem nf_0 : ∀ k, k < 6 → ∃ t : FieldType, parseFieldDescriptor (TX0 k).2.2.1 = some t ∧ cz0 0 k = defaultValue t := fun k hk => ⟨tyX0 k, tyX0_ok k hk, nz_0 k hk⟩
theorem nz_1 : ∀ k, k < 7 → cz0 1 k = defaultValue (tyX1 k) := by decide +kernel
theorem nf_1 : ∀ k, k < 7 → ∃ t : FieldType, parseFieldDescriptor (TX1 k).2.2.1 = some t ∧ cz0 1 k = defaultValue t := fun k hk => ⟨tyX1 k, tyX1_ok k hk, nz_1 k hk⟩
theorem nz_2 : ∀ k, k < 4 → cz0 2 k = defaultValue (tyX2 k) := by decide +kernel
theorem nf_2 : ∀ k, k < 4 → ∃ t : FieldType, parseFieldDescriptor (TX2 k).2.2.1 = some t ∧ cz0 2 k = defaultValue t := fun k hk => ⟨tyX2 k, tyX2_ok k hk, nz_2 k hk⟩
theorem nz_3 : ∀ k, k < 5 → cz0 3 k = defaultValue (tyX3 k) := by decide +kernel
theorem nf_3 : ∀ k, k < 5 → ∃ t : FieldType, parseFieldDescriptor (TX3 k).2.2.1 = some t ∧ cz0 3 k = defaultValue t := fun k hk => ⟨tyX3 k, tyX3_ok k hk, nz_3 k hk⟩
theorem nz_4 : ∀ k, k < 6 → cz0 4 k = defaultValue (tyX4 k) := by decide +kernel
theorem nf_4 : ∀ k, k < 6 → ∃ t : FieldType, parseFieldDescriptor (TX4 k).2.2.1 = some t ∧ cz0 4 k = defaultValue t := fun k hk => ⟨tyX4 k, tyX4_ok k hk, nz_4 k hk⟩
theorem nz_5 : ∀ k, k < 7 → cz0 5 k = defaultValue (tyX5 k) := by decide +kernel
theorem nf_5 : ∀ k, k < 7 → ∃ t : FieldType, parseFieldDescriptor (TX5 k).2.2.1 = some t ∧ cz0 5 k = defaultValue t := fun k hk => ⟨tyX5 k, tyX5_ok k hk, nz_5 k hk⟩
theorem nz_6 : ∀ k, k < 8 → cz0 6 k = defaultValue (tyX6 k) := by decide +kernel
theorem nf_6 : ∀ k, k < 8 → ∃ t : FieldType, parseFieldDescriptor (TX6 k).2.2.1 = some t ∧ cz0 6 k = defaultValue t := fun k hk => ⟨tyX6 k, tyX6_ok k hk, nz_6 k hk⟩
theorem nz_7 : ∀ k, k < 2 → cz0 7 k = defaultValue (tyX7 k) := by decide +kernel
theorem nf_7 : ∀ k, k < 2 → ∃ t : FieldType, parseFieldDescriptor (TX7 k).2.2.1 = some t ∧ cz0 7 k = defaultValue t := fun k hk => ⟨tyX7 k, tyX7_ok k hk, nz_7 k hk⟩
theorem nz_8 : ∀ k, k < 2 → cz0 8 k = defaultValue (tyX8 k) := by decide +kernel
theorem nf_8 : ∀ k, k < 2 → ∃ t : FieldType, parseFieldDescriptor (TX8 k).2.2.1 = some t ∧ cz0 8 k = defaultValue t := fun k hk => ⟨tyX8 k, tyX8_ok k hk, nz_8 k hk⟩
theorem nz_9 : ∀ k, k < 12 → cz0 9 k = defaultValue (tyX9 k) := by decide +kernel
theorem nf_9 : ∀ k, k < 12 → ∃ t : FieldType, parseFieldDescriptor (TX9 k).2.2.1 = some t ∧ cz0 9 k = defaultValue t := fun k hk => ⟨tyX9 k, tyX9_ok k hk, nz_9 k hk⟩
theorem nz_10 : ∀ k, k < 59 → cz0 10 k = defaultValue (tyX10 k) := by decide +kernel
theorem nf_10 : ∀ k, k < 59 → ∃ t : FieldType, parseFieldDescriptor (TX10 k).2.2.1 = some t ∧ cz0 10 k = defaultValue t := fun k hk => ⟨tyX10 k, tyX10_ok k hk, nz_10 k hk⟩
theorem xw_9_87 : am_xw (some RX9) "java/lang/IllegalArgumentException" 87 89 := ⟨RX9, rfl, am_mem 463 (by decide +kernel) rfl, am_mem 506 (by decide +kernel) rfl, by decide⟩
theorem xw_9_98 : am_xw (some RX9) "java/lang/UnsupportedOperationException" 98 100 := ⟨RX9, rfl, am_mem 659 (by decide +kernel) rfl, am_mem 668 (by decide +kernel) rfl, by decide⟩
theorem xw_9_129 : am_xw (some RX9) "java/util/NoSuchElementException" 129 131 := ⟨RX9, rfl, am_mem 726 (by decide +kernel) rfl, am_mem 735 (by decide +kernel) rfl, by decide⟩
theorem xw_9_132 : am_xw (some RX9) "java/lang/IndexOutOfBoundsException" 132 134 := ⟨RX9, rfl, am_mem 741 (by decide +kernel) rfl, am_mem 750 (by decide +kernel) rfl, by decide⟩
theorem xw_9_145 : am_xw (some RX9) "java/lang/IllegalStateException" 145 147 := ⟨RX9, rfl, am_mem 765 (by decide +kernel) rfl, am_mem 774 (by decide +kernel) rfl, by decide⟩
theorem mw_4_23 : Cond.classLink RX4 23 "[[I" ∈ am_tbl := am_mem 836 (by decide +kernel) rfl
