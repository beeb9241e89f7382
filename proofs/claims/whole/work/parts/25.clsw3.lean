theorem dX1_examineKind_0 : decode cX1_examineKind 0 = .ok (.aload_n 1, 1) := by decide +kernel
theorem dX1_examineKind_1 : decode cX1_examineKind 1 = .ok (.getfield 74, 3) := by decide +kernel
theorem dX1_examineKind_4 : decode cX1_examineKind 4 = .ok (.lookupswitch 246 #[(33, 166), (38, 206), (43, 186), (45, 186), (58, 226), (60, 186), (63, 196), (65, 176), (66, 156), (67, 186), (68, 176), (69, 156), (71, 236), (72, 236), (73, 236), (78, 156), (80, 156), (124, 216)], 156) := by decide +kernel
theorem dX1_examineKind_160 : decode cX1_examineKind 160 = .ok (.aload_n 0, 1) := by decide +kernel
theorem dX1_examineKind_161 : decode cX1_examineKind 161 = .ok (.aload_n 1, 1) := by decide +kernel
theorem dX1_examineKind_162 : decode cX1_examineKind 162 = .ok (.aload_n 2, 1) := by decide +kernel
theorem dX1_examineKind_163 : decode cX1_examineKind 163 = .ok (.aload_n 3, 1) := by decide +kernel
theorem dX1_examineKind_164 : decode cX1_examineKind 164 = .ok (.iload 4, 2) := by decide +kernel
theorem dX1_examineKind_166 : decode cX1_examineKind 166 = .ok (.invokevirtual 77, 3) := by decide +kernel
theorem dX1_examineKind_169 : decode cX1_examineKind 169 = .ok (.ireturn, 1) := by decide +kernel
theorem dX1_examineKind_170 : decode cX1_examineKind 170 = .ok (.aload_n 0, 1) := by decide +kernel
theorem dX1_examineKind_171 : decode cX1_examineKind 171 = .ok (.aload_n 1, 1) := by decide +kernel
theorem dX1_examineKind_172 : decode cX1_examineKind 172 = .ok (.aload_n 2, 1) := by decide +kernel
theorem dX1_examineKind_173 : decode cX1_examineKind 173 = .ok (.aload_n 3, 1) := by decide +kernel
theorem dX1_examineKind_174 : decode cX1_examineKind 174 = .ok (.iload 4, 2) := by decide +kernel
theorem dX1_examineKind_176 : decode cX1_examineKind 176 = .ok (.invokevirtual 80, 3) := by decide +kernel
theorem dX1_examineKind_179 : decode cX1_examineKind 179 = .ok (.ireturn, 1) := by decide +kernel
theorem dX1_examineKind_180 : decode cX1_examineKind 180 = .ok (.aload_n 0, 1) := by decide +kernel
theorem dX1_examineKind_181 : decode cX1_examineKind 181 = .ok (.aload_n 1, 1) := by decide +kernel
theorem dX1_examineKind_182 : decode cX1_examineKind 182 = .ok (.aload_n 2, 1) := by decide +kernel
theorem dX1_examineKind_183 : decode cX1_examineKind 183 = .ok (.aload_n 3, 1) := by decide +kernel
theorem dX1_examineKind_184 : decode cX1_examineKind 184 = .ok (.iload 4, 2) := by decide +kernel
theorem dX1_examineKind_186 : decode cX1_examineKind 186 = .ok (.invokevirtual 83, 3) := by decide +kernel
theorem dX1_examineKind_189 : decode cX1_examineKind 189 = .ok (.ireturn, 1) := by decide +kernel
theorem dX1_examineKind_190 : decode cX1_examineKind 190 = .ok (.aload_n 0, 1) := by decide +kernel
theorem dX1_examineKind_191 : decode cX1_examineKind 191 = .ok (.aload_n 1, 1) := by decide +kernel
theorem dX1_examineKind_192 : decode cX1_examineKind 192 = .ok (.aload_n 2, 1) := by decide +kernel
theorem dX1_examineKind_193 : decode cX1_examineKind 193 = .ok (.aload_n 3, 1) := by decide +kernel
theorem dX1_examineKind_194 : decode cX1_examineKind 194 = .ok (.iload 4, 2) := by decide +kernel
theorem dX1_examineKind_196 : decode cX1_examineKind 196 = .ok (.invokevirtual 86, 3) := by decide +kernel
theorem dX1_examineKind_199 : decode cX1_examineKind 199 = .ok (.ireturn, 1) := by decide +kernel
theorem dX1_examineKind_200 : decode cX1_examineKind 200 = .ok (.aload_n 0, 1) := by decide +kernel
theorem dX1_examineKind_201 : decode cX1_examineKind 201 = .ok (.aload_n 1, 1) := by decide +kernel
theorem dX1_examineKind_202 : decode cX1_examineKind 202 = .ok (.aload_n 2, 1) := by decide +kernel
theorem dX1_examineKind_203 : decode cX1_examineKind 203 = .ok (.aload_n 3, 1) := by decide +kernel
theorem dX1_examineKind_204 : decode cX1_examineKind 204 = .ok (.iload 4, 2) := by decide +kernel
theorem dX1_examineKind_206 : decode cX1_examineKind 206 = .ok (.invokevirtual 89, 3) := by decide +kernel
theorem dX1_examineKind_209 : decode cX1_examineKind 209 = .ok (.ireturn, 1) := by decide +kernel
theorem dX1_examineKind_210 : decode cX1_examineKind 210 = .ok (.aload_n 0, 1) := by decide +kernel
theorem dX1_examineKind_211 : decode cX1_examineKind 211 = .ok (.aload_n 1, 1) := by decide +kernel
theorem dX1_examineKind_212 : decode cX1_examineKind 212 = .ok (.aload_n 2, 1) := by decide +kernel
theorem dX1_examineKind_213 : decode cX1_examineKind 213 = .ok (.aload_n 3, 1) := by decide +kernel
theorem dX1_examineKind_214 : decode cX1_examineKind 214 = .ok (.iload 4, 2) := by decide +kernel
theorem dX1_examineKind_216 : decode cX1_examineKind 216 = .ok (.invokevirtual 92, 3) := by decide +kernel
theorem dX1_examineKind_219 : decode cX1_examineKind 219 = .ok (.ireturn, 1) := by decide +kernel
theorem dX1_examineKind_220 : decode cX1_examineKind 220 = .ok (.aload_n 0, 1) := by decide +kernel
theorem dX1_examineKind_221 : decode cX1_examineKind 221 = .ok (.aload_n 1, 1) := by decide +kernel
theorem dX1_examineKind_222 : decode cX1_examineKind 222 = .ok (.aload_n 2, 1) := by decide +kernel
theorem dX1_examineKind_223 : decode cX1_examineKind 223 = .ok (.aload_n 3, 1) := by decide +kernel
theorem dX1_examineKind_224 : decode cX1_examineKind 224 = .ok (.iload 4, 2) := by decide +kernel
theorem dX1_examineKind_226 : decode cX1_examineKind 226 = .ok (.invokevirtual 95, 3) := by decide +kernel
theorem dX1_examineKind_229 : decode cX1_examineKind 229 = .ok (.ireturn, 1) := by decide +kernel
theorem dX1_examineKind_230 : decode cX1_examineKind 230 = .ok (.aload_n 0, 1) := by decide +kernel
theorem dX1_examineKind_231 : decode cX1_examineKind 231 = .ok (.aload_n 1, 1) := by decide +kernel
theorem dX1_examineKind_232 : decode cX1_examineKind 232 = .ok (.aload_n 2, 1) := by decide +kernel
theorem dX1_examineKind_233 : decode cX1_examineKind 233 = .ok (.aload_n 3, 1) := by decide +kernel
theorem dX1_examineKind_234 : decode cX1_examineKind 234 = .ok (.iload 4, 2) := by decide +kernel
theorem dX1_examineKind_236 : decode cX1_examineKind 236 = .ok (.invokevirtual 98, 3) := by decide +kernel
theorem dX1_examineKind_239 : decode cX1_examineKind 239 = .ok (.ireturn, 1) := by decide +kernel
theorem dX1_examineKind_240 : decode cX1_examineKind 240 = .ok (.aload_n 0, 1) := by decide +kernel
theorem dX1_examineKind_241 : decode cX1_examineKind 241 = .ok (.aload_n 1, 1) := by decide +kernel
theorem dX1_examineKind_242 : decode cX1_examineKind 242 = .ok (.aload_n 2, 1) := by decide +kernel
theorem dX1_examineKind_243 : decode cX1_examineKind 243 = .ok (.aload_n 3, 1) := by decide +kernel
theorem dX1_examineKind_244 : decode cX1_examineKind 244 = .ok (.iload 4, 2) := by decide +kernel
theorem dX1_examineKind_246 : decode cX1_examineKind 246 = .ok (.invokevirtual 101, 3) := by decide +kernel
theorem dX1_examineKind_249 : decode cX1_examineKind 249 = .ok (.ireturn, 1) := by decide +kernel
theorem dX1_examineKind_250 : decode cX1_examineKind 250 = .ok (.aload_n 1, 1) := by decide +kernel
theorem dX1_examineKind_251 : decode cX1_examineKind 251 = .ok (.getfield 104, 3) := by decide +kernel
theorem dX1_examineKind_254 : decode cX1_examineKind 254 = .ok (.iconst (-1), 1) := by decide +kernel
theorem dX1_examineKind_255 : decode cX1_examineKind 255 = .ok (.if_icmp .ne 13, 3) := by decide +kernel
theorem dX1_examineKind_258 : decode cX1_examineKind 258 = .ok (.aload_n 0, 1) := by decide +kernel
theorem dX1_examineKind_259 : decode cX1_examineKind 259 = .ok (.aload_n 1, 1) := by decide +kernel
theorem dX1_examineKind_260 : decode cX1_examineKind 260 = .ok (.aload_n 2, 1) := by decide +kernel
theorem dX1_examineKind_261 : decode cX1_examineKind 261 = .ok (.aload_n 3, 1) := by decide +kernel
theorem dX1_examineKind_262 : decode cX1_examineKind 262 = .ok (.invokevirtual 107, 3) := by decide +kernel
theorem dX1_examineKind_265 : decode cX1_examineKind 265 = .ok (.goto 10, 3) := by decide +kernel
theorem dX1_examineKind_268 : decode cX1_examineKind 268 = .ok (.aload_n 0, 1) := by decide +kernel
theorem dX1_examineKind_269 : decode cX1_examineKind 269 = .ok (.aload_n 1, 1) := by decide +kernel
theorem dX1_examineKind_270 : decode cX1_examineKind 270 = .ok (.aload_n 2, 1) := by decide +kernel
theorem dX1_examineKind_271 : decode cX1_examineKind 271 = .ok (.aload_n 3, 1) := by decide +kernel
theorem dX1_examineKind_272 : decode cX1_examineKind 272 = .ok (.invokevirtual 111, 3) := by decide +kernel
theorem dX1_examineKind_275 : decode cX1_examineKind 275 = .ok (.ireturn, 1) := by decide +kernel
set_option maxRecDepth 20000 in
set_option maxHeartbeats 4000000 in
theorem w_X1_examineKind {c : cX} {d : Nat} {C : cS} {K : Option Value → cS → Prop} (t : Nat) (p0 : Option Nat) (p1 : Option Nat) (p2 : Option Nat) (p3 : Int32) (h : ∃ a1 : Nat, p0 = some a1 ∧ (cT C a1 5 7 ∧ (((cI C a1 0) = 33 → (cT C t 1 7 ∧ (cM c d eX1_examineNot (.ref t :: [va_rf p0, va_rf p1, va_rf p2, .int p3]) C (fun v C4 => ∃ z5 : Int32, v = some (.int z5) ∧ cle C C4 ∧ (rB z5 ∧ K (some (.int z5)) C4))))) ∧ ((cI C a1 0) = 38 → (cT C t 1 7 ∧ (cM c d eX1_examineAnd (.ref t :: [va_rf p0, va_rf p1, va_rf p2, .int p3]) C (fun v C11 => ∃ z12 : Int32, v = some (.int z12) ∧ cle C C11 ∧ (rB z12 ∧ K (some (.int z12)) C11))))) ∧ ((cI C a1 0) = 43 ∨ (cI C a1 0) = 45 ∨ (cI C a1 0) = 60 ∨ (cI C a1 0) = 67 → (cT C t 1 7 ∧ (cM c d eX1_examineTwo (.ref t :: [va_rf p0, va_rf p1, va_rf p2, .int p3]) C (fun v C18 => ∃ z19 : Int32, v = some (.int z19) ∧ cle C C18 ∧ (rB z19 ∧ K (some (.int z19)) C18))))) ∧ ((cI C a1 0) = 58 → (cT C t 1 7 ∧ (cM c d eX1_examineBinding (.ref t :: [va_rf p0, va_rf p1, va_rf p2, .int p3]) C (fun v C25 => ∃ z26 : Int32, v = some (.int z26) ∧ cle C C25 ∧ (rB z26 ∧ K (some (.int z26)) C25))))) ∧ ((cI C a1 0) = 63 → (cT C t 1 7 ∧ (cM c d eX1_examineChoice (.ref t :: [va_rf p0, va_rf p1, va_rf p2, .int p3]) C (fun v C32 => ∃ z33 : Int32, v = some (.int z33) ∧ cle C C32 ∧ (rB z33 ∧ K (some (.int z33)) C32))))) ∧ ((cI C a1 0) = 65 ∨ (cI C a1 0) = 68 → (cT C t 1 7 ∧ (cM c d eX1_examineHalf (.ref t :: [va_rf p0, va_rf p1, va_rf p2, .int p3]) C (fun v C39 => ∃ z40 : Int32, v = some (.int z40) ∧ cle C C39 ∧ (rB z40 ∧ K (some (.int z40)) C39))))) ∧ ((cI C a1 0) = 66 ∨ (cI C a1 0) = 69 ∨ (cI C a1 0) = 78 ∨ (cI C a1 0) = 80 → (cT C t 1 7 ∧ (cM c d eX1_examineTest (.ref t :: [va_rf p0, va_rf p1, va_rf p2, .int p3]) C (fun v C46 => ∃ z47 : Int32, v = some (.int z47) ∧ cle C C46 ∧ (rB z47 ∧ K (some (.int z47)) C46))))) ∧ ((cI C a1 0) = 71 ∨ (cI C a1 0) = 72 ∨ (cI C a1 0) = 73 → (cT C t 1 7 ∧ (cM c d eX1_examineCall (.ref t :: [va_rf p0, va_rf p1, va_rf p2, .int p3]) C (fun v C53 => ∃ z54 : Int32, v = some (.int z54) ∧ cle C C53 ∧ (rB z54 ∧ K (some (.int z54)) C53))))) ∧ ((cI C a1 0) = 124 → (cT C t 1 7 ∧ (cM c d eX1_examineOr (.ref t :: [va_rf p0, va_rf p1, va_rf p2, .int p3]) C (fun v C60 => ∃ z61 : Int32, v = some (.int z61) ∧ cle C C60 ∧ (rB z61 ∧ K (some (.int z61)) C60))))) ∧ (¬ (cI C a1 0) = 33 ∧ ¬ (cI C a1 0) = 38 ∧ ¬ (cI C a1 0) = 43 ∧ ¬ (cI C a1 0) = 45 ∧ ¬ (cI C a1 0) = 58 ∧ ¬ (cI C a1 0) = 60 ∧ ¬ (cI C a1 0) = 63 ∧ ¬ (cI C a1 0) = 65 ∧ ¬ (cI C a1 0) = 66 ∧ ¬ (cI C a1 0) = 67 ∧ ¬ (cI C a1 0) = 68 ∧ ¬ (cI C a1 0) = 69 ∧ ¬ (cI C a1 0) = 71 ∧ ¬ (cI C a1 0) = 72 ∧ ¬ (cI C a1 0) = 73 ∧ ¬ (cI C a1 0) = 78 ∧ ¬ (cI C a1 0) = 80 ∧ ¬ (cI C a1 0) = 124 → ((¬ (cI C a1 3) = (-1) → (cT C t 1 7 ∧ (cM c d eX1_examineVariable (.ref t :: [va_rf p0, va_rf p1, va_rf p2]) C (fun v C68 => ∃ z69 : Int32, v = some (.int z69) ∧ cle C C68 ∧ (rB z69 ∧ K (some (.int z69)) C68))))) ∧ ((cI C a1 3) = (-1) → (cT C t 1 7 ∧ (cM c d eX1_examineConstant (.ref t :: [va_rf p0, va_rf p1, va_rf p2]) C (fun v C75 => ∃ z76 : Int32, v = some (.int z76) ∧ cle C C75 ∧ (rB z76 ∧ K (some (.int z76)) C75)))))))))) : cM c (d + 1) eX1_examineKind [.ref t, va_rf p0, va_rf p1, va_rf p2, .int p3] C K := by
  refine cM.of2 (lv := [some (.ref t), some (va_rf p0), some (va_rf p1), some (va_rf p2), some (.int p3)]) (by decide) (by simp only [am_sl_i, am_sl_r, am_sl_l, am_sl_o, am_sl_n]; exact Nat.le_of_ble_eq_true rfl) (by simp only [am_en, am_sl_i, am_sl_r, am_sl_l, am_sl_o, am_sl_n]; rfl) ?_
  refine ag_aload_n dX1_examineKind_0 rfl (va_rf_or _) ?_
  obtain ⟨a1, hr2, h⟩ := h
  refine cr_stk (st' := [.ref a1]) (by rw [hr2]; rfl) ?_
  obtain ⟨hT3, h⟩ := h
  refine cr_get (v := .int (cI C a1 0)) dX1_examineKind_1 fw_1_74 hT3 rfl ?_
  obtain ⟨q82, q83, q84, q85, q86, q87, q88, q89, q90, q91⟩ := h
  by_cases hk92 : (cI C a1 0) = 33
  · refine ag_lookup (tgt := 170) (off := 166) dX1_examineKind_4 (by decide) (by rw [hk92]; decide) rfl ?_
    have h := q82 hk92
    refine ag_aload_n dX1_examineKind_170 rfl (Or.inr ⟨_, rfl⟩) ?_
    refine ag_aload_n dX1_examineKind_171 rfl (va_rf_or _) ?_
    refine ag_aload_n dX1_examineKind_172 rfl (va_rf_or _) ?_
    refine ag_aload_n dX1_examineKind_173 rfl (va_rf_or _) ?_
    refine ag_iload dX1_examineKind_174 rfl ?_
    obtain ⟨hT7, h⟩ := h
    refine cr_callV (as := [va_rf p0, va_rf p1, va_rf p2, .int p3]) (rest := []) dX1_examineKind_176 me_X1_examineNot mi_X1_examineNot lk_1_80 hT7 rfl rfl (Nat.le_of_ble_eq_true rfl) ?_
    refine cM.mono h ?_
    rintro v C4 ⟨z5, rfl, hL6, h⟩
    have hT8 := cT.le (C := C) hT3 hL6
    have hT9 := cT.le (C := C) hT7 hL6
    show cG _ _ _ _ _ _ [.int z5] _
    obtain ⟨hb10, h⟩ := h
    exact ag_ret (v := some (.int z5)) dX1_examineKind_179 ⟨_, rfl, rB_n hb10⟩ ⟨_, rfl, _, rfl, h⟩ rfl
  · by_cases hk93 : (cI C a1 0) = 38
    · refine ag_lookup (tgt := 210) (off := 206) dX1_examineKind_4 (by decide) (by rw [lv_osw (k := 33) hk92 (by decide)]; rw [hk93]; decide) rfl ?_
      have h := q83 hk93
      refine ag_aload_n dX1_examineKind_210 rfl (Or.inr ⟨_, rfl⟩) ?_
      refine ag_aload_n dX1_examineKind_211 rfl (va_rf_or _) ?_
      refine ag_aload_n dX1_examineKind_212 rfl (va_rf_or _) ?_
      refine ag_aload_n dX1_examineKind_213 rfl (va_rf_or _) ?_
      refine ag_iload dX1_examineKind_214 rfl ?_
      obtain ⟨hT14, h⟩ := h
      refine cr_callV (as := [va_rf p0, va_rf p1, va_rf p2, .int p3]) (rest := []) dX1_examineKind_216 me_X1_examineAnd mi_X1_examineAnd lk_1_92 hT14 rfl rfl (Nat.le_of_ble_eq_true rfl) ?_
      refine cM.mono h ?_
      rintro v C11 ⟨z12, rfl, hL13, h⟩
      have hT15 := cT.le (C := C) hT3 hL13
      have hT16 := cT.le (C := C) hT14 hL13
      show cG _ _ _ _ _ _ [.int z12] _
      obtain ⟨hb17, h⟩ := h
      exact ag_ret (v := some (.int z12)) dX1_examineKind_219 ⟨_, rfl, rB_n hb17⟩ ⟨_, rfl, _, rfl, h⟩ rfl
    · by_cases hk94 : (cI C a1 0) = 43
      · refine ag_lookup (tgt := 190) (off := 186) dX1_examineKind_4 (by decide) (by rw [lv_osw (k := 33) hk92 (by decide)]; rw [lv_osw (k := 38) hk93 (by decide)]; rw [hk94]; decide) rfl ?_
        have h := q84 (Or.inl hk94)
        refine ag_aload_n dX1_examineKind_190 rfl (Or.inr ⟨_, rfl⟩) ?_
        refine ag_aload_n dX1_examineKind_191 rfl (va_rf_or _) ?_
        refine ag_aload_n dX1_examineKind_192 rfl (va_rf_or _) ?_
        refine ag_aload_n dX1_examineKind_193 rfl (va_rf_or _) ?_
        refine ag_iload dX1_examineKind_194 rfl ?_
        obtain ⟨hT21, h⟩ := h
        refine cr_callV (as := [va_rf p0, va_rf p1, va_rf p2, .int p3]) (rest := []) dX1_examineKind_196 me_X1_examineTwo mi_X1_examineTwo lk_1_86 hT21 rfl rfl (Nat.le_of_ble_eq_true rfl) ?_
        refine cM.mono h ?_
        rintro v C18 ⟨z19, rfl, hL20, h⟩
        have hT22 := cT.le (C := C) hT3 hL20
        have hT23 := cT.le (C := C) hT21 hL20
        show cG _ _ _ _ _ _ [.int z19] _
        obtain ⟨hb24, h⟩ := h
        exact ag_ret (v := some (.int z19)) dX1_examineKind_199 ⟨_, rfl, rB_n hb24⟩ ⟨_, rfl, _, rfl, h⟩ rfl
      · by_cases hk95 : (cI C a1 0) = 45
        · refine ag_lookup (tgt := 190) (off := 186) dX1_examineKind_4 (by decide) (by rw [lv_osw (k := 33) hk92 (by decide)]; rw [lv_osw (k := 38) hk93 (by decide)]; rw [lv_osw (k := 43) hk94 (by decide)]; rw [hk95]; decide) rfl ?_
          have h := q84 (Or.inr (Or.inl hk95))
          refine ag_aload_n dX1_examineKind_190 rfl (Or.inr ⟨_, rfl⟩) ?_
          refine ag_aload_n dX1_examineKind_191 rfl (va_rf_or _) ?_
          refine ag_aload_n dX1_examineKind_192 rfl (va_rf_or _) ?_
          refine ag_aload_n dX1_examineKind_193 rfl (va_rf_or _) ?_
          refine ag_iload dX1_examineKind_194 rfl ?_
          obtain ⟨hT21, h⟩ := h
          refine cr_callV (as := [va_rf p0, va_rf p1, va_rf p2, .int p3]) (rest := []) dX1_examineKind_196 me_X1_examineTwo mi_X1_examineTwo lk_1_86 hT21 rfl rfl (Nat.le_of_ble_eq_true rfl) ?_
          refine cM.mono h ?_
          rintro v C18 ⟨z19, rfl, hL20, h⟩
          have hT22 := cT.le (C := C) hT3 hL20
          have hT23 := cT.le (C := C) hT21 hL20
          show cG _ _ _ _ _ _ [.int z19] _
          obtain ⟨hb24, h⟩ := h
          exact ag_ret (v := some (.int z19)) dX1_examineKind_199 ⟨_, rfl, rB_n hb24⟩ ⟨_, rfl, _, rfl, h⟩ rfl
        · by_cases hk96 : (cI C a1 0) = 58
          · refine ag_lookup (tgt := 230) (off := 226) dX1_examineKind_4 (by decide) (by rw [lv_osw (k := 33) hk92 (by decide)]; rw [lv_osw (k := 38) hk93 (by decide)]; rw [lv_osw (k := 43) hk94 (by decide)]; rw [lv_osw (k := 45) hk95 (by decide)]; rw [hk96]; decide) rfl ?_
            have h := q85 hk96
            refine ag_aload_n dX1_examineKind_230 rfl (Or.inr ⟨_, rfl⟩) ?_
            refine ag_aload_n dX1_examineKind_231 rfl (va_rf_or _) ?_
            refine ag_aload_n dX1_examineKind_232 rfl (va_rf_or _) ?_
            refine ag_aload_n dX1_examineKind_233 rfl (va_rf_or _) ?_
            refine ag_iload dX1_examineKind_234 rfl ?_
            obtain ⟨hT28, h⟩ := h
            refine cr_callV (as := [va_rf p0, va_rf p1, va_rf p2, .int p3]) (rest := []) dX1_examineKind_236 me_X1_examineBinding mi_X1_examineBinding lk_1_98 hT28 rfl rfl (Nat.le_of_ble_eq_true rfl) ?_
            refine cM.mono h ?_
            rintro v C25 ⟨z26, rfl, hL27, h⟩
            have hT29 := cT.le (C := C) hT3 hL27
            have hT30 := cT.le (C := C) hT28 hL27
            show cG _ _ _ _ _ _ [.int z26] _
            obtain ⟨hb31, h⟩ := h
            exact ag_ret (v := some (.int z26)) dX1_examineKind_239 ⟨_, rfl, rB_n hb31⟩ ⟨_, rfl, _, rfl, h⟩ rfl
          · by_cases hk97 : (cI C a1 0) = 60
            · refine ag_lookup (tgt := 190) (off := 186) dX1_examineKind_4 (by decide) (by rw [lv_osw (k := 33) hk92 (by decide)]; rw [lv_osw (k := 38) hk93 (by decide)]; rw [lv_osw (k := 43) hk94 (by decide)]; rw [lv_osw (k := 45) hk95 (by decide)]; rw [lv_osw (k := 58) hk96 (by decide)]; rw [hk97]; decide) rfl ?_
              have h := q84 (Or.inr (Or.inr (Or.inl hk97)))
              refine ag_aload_n dX1_examineKind_190 rfl (Or.inr ⟨_, rfl⟩) ?_
              refine ag_aload_n dX1_examineKind_191 rfl (va_rf_or _) ?_
              refine ag_aload_n dX1_examineKind_192 rfl (va_rf_or _) ?_
              refine ag_aload_n dX1_examineKind_193 rfl (va_rf_or _) ?_
              refine ag_iload dX1_examineKind_194 rfl ?_
              obtain ⟨hT21, h⟩ := h
              refine cr_callV (as := [va_rf p0, va_rf p1, va_rf p2, .int p3]) (rest := []) dX1_examineKind_196 me_X1_examineTwo mi_X1_examineTwo lk_1_86 hT21 rfl rfl (Nat.le_of_ble_eq_true rfl) ?_
              refine cM.mono h ?_
              rintro v C18 ⟨z19, rfl, hL20, h⟩
              have hT22 := cT.le (C := C) hT3 hL20
              have hT23 := cT.le (C := C) hT21 hL20
              show cG _ _ _ _ _ _ [.int z19] _
              obtain ⟨hb24, h⟩ := h
              exact ag_ret (v := some (.int z19)) dX1_examineKind_199 ⟨_, rfl, rB_n hb24⟩ ⟨_, rfl, _, rfl, h⟩ rfl
            · by_cases hk98 : (cI C a1 0) = 63
              · refine ag_lookup (tgt := 200) (off := 196) dX1_examineKind_4 (by decide) (by rw [lv_osw (k := 33) hk92 (by decide)]; rw [lv_osw (k := 38) hk93 (by decide)]; rw [lv_osw (k := 43) hk94 (by decide)]; rw [lv_osw (k := 45) hk95 (by decide)]; rw [lv_osw (k := 58) hk96 (by decide)]; rw [lv_osw (k := 60) hk97 (by decide)]; rw [hk98]; decide) rfl ?_
                have h := q86 hk98
                refine ag_aload_n dX1_examineKind_200 rfl (Or.inr ⟨_, rfl⟩) ?_
                refine ag_aload_n dX1_examineKind_201 rfl (va_rf_or _) ?_
                refine ag_aload_n dX1_examineKind_202 rfl (va_rf_or _) ?_
                refine ag_aload_n dX1_examineKind_203 rfl (va_rf_or _) ?_
                refine ag_iload dX1_examineKind_204 rfl ?_
                obtain ⟨hT35, h⟩ := h
                refine cr_callV (as := [va_rf p0, va_rf p1, va_rf p2, .int p3]) (rest := []) dX1_examineKind_206 me_X1_examineChoice mi_X1_examineChoice lk_1_89 hT35 rfl rfl (Nat.le_of_ble_eq_true rfl) ?_
                refine cM.mono h ?_
                rintro v C32 ⟨z33, rfl, hL34, h⟩
                have hT36 := cT.le (C := C) hT3 hL34
                have hT37 := cT.le (C := C) hT35 hL34
                show cG _ _ _ _ _ _ [.int z33] _
                obtain ⟨hb38, h⟩ := h
                exact ag_ret (v := some (.int z33)) dX1_examineKind_209 ⟨_, rfl, rB_n hb38⟩ ⟨_, rfl, _, rfl, h⟩ rfl
              · by_cases hk99 : (cI C a1 0) = 65
                · refine ag_lookup (tgt := 180) (off := 176) dX1_examineKind_4 (by decide) (by rw [lv_osw (k := 33) hk92 (by decide)]; rw [lv_osw (k := 38) hk93 (by decide)]; rw [lv_osw (k := 43) hk94 (by decide)]; rw [lv_osw (k := 45) hk95 (by decide)]; rw [lv_osw (k := 58) hk96 (by decide)]; rw [lv_osw (k := 60) hk97 (by decide)]; rw [lv_osw (k := 63) hk98 (by decide)]; rw [hk99]; decide) rfl ?_
                  have h := q87 (Or.inl hk99)
                  refine ag_aload_n dX1_examineKind_180 rfl (Or.inr ⟨_, rfl⟩) ?_
                  refine ag_aload_n dX1_examineKind_181 rfl (va_rf_or _) ?_
                  refine ag_aload_n dX1_examineKind_182 rfl (va_rf_or _) ?_
                  refine ag_aload_n dX1_examineKind_183 rfl (va_rf_or _) ?_
                  refine ag_iload dX1_examineKind_184 rfl ?_
                  obtain ⟨hT42, h⟩ := h
                  refine cr_callV (as := [va_rf p0, va_rf p1, va_rf p2, .int p3]) (rest := []) dX1_examineKind_186 me_X1_examineHalf mi_X1_examineHalf lk_1_83 hT42 rfl rfl (Nat.le_of_ble_eq_true rfl) ?_
                  refine cM.mono h ?_
                  rintro v C39 ⟨z40, rfl, hL41, h⟩
                  have hT43 := cT.le (C := C) hT3 hL41
                  have hT44 := cT.le (C := C) hT42 hL41
                  show cG _ _ _ _ _ _ [.int z40] _
                  obtain ⟨hb45, h⟩ := h
                  exact ag_ret (v := some (.int z40)) dX1_examineKind_189 ⟨_, rfl, rB_n hb45⟩ ⟨_, rfl, _, rfl, h⟩ rfl
                · by_cases hk100 : (cI C a1 0) = 66
                  · refine ag_lookup (tgt := 160) (off := 156) dX1_examineKind_4 (by decide) (by rw [lv_osw (k := 33) hk92 (by decide)]; rw [lv_osw (k := 38) hk93 (by decide)]; rw [lv_osw (k := 43) hk94 (by decide)]; rw [lv_osw (k := 45) hk95 (by decide)]; rw [lv_osw (k := 58) hk96 (by decide)]; rw [lv_osw (k := 60) hk97 (by decide)]; rw [lv_osw (k := 63) hk98 (by decide)]; rw [lv_osw (k := 65) hk99 (by decide)]; rw [hk100]; decide) rfl ?_
                    have h := q88 (Or.inl hk100)
                    refine ag_aload_n dX1_examineKind_160 rfl (Or.inr ⟨_, rfl⟩) ?_
                    refine ag_aload_n dX1_examineKind_161 rfl (va_rf_or _) ?_
                    refine ag_aload_n dX1_examineKind_162 rfl (va_rf_or _) ?_
                    refine ag_aload_n dX1_examineKind_163 rfl (va_rf_or _) ?_
                    refine ag_iload dX1_examineKind_164 rfl ?_
                    obtain ⟨hT49, h⟩ := h
                    refine cr_callV (as := [va_rf p0, va_rf p1, va_rf p2, .int p3]) (rest := []) dX1_examineKind_166 me_X1_examineTest mi_X1_examineTest lk_1_77 hT49 rfl rfl (Nat.le_of_ble_eq_true rfl) ?_
                    refine cM.mono h ?_
                    rintro v C46 ⟨z47, rfl, hL48, h⟩
                    have hT50 := cT.le (C := C) hT3 hL48
                    have hT51 := cT.le (C := C) hT49 hL48
                    show cG _ _ _ _ _ _ [.int z47] _
                    obtain ⟨hb52, h⟩ := h
                    exact ag_ret (v := some (.int z47)) dX1_examineKind_169 ⟨_, rfl, rB_n hb52⟩ ⟨_, rfl, _, rfl, h⟩ rfl
                  · by_cases hk101 : (cI C a1 0) = 67
                    · refine ag_lookup (tgt := 190) (off := 186) dX1_examineKind_4 (by decide) (by rw [lv_osw (k := 33) hk92 (by decide)]; rw [lv_osw (k := 38) hk93 (by decide)]; rw [lv_osw (k := 43) hk94 (by decide)]; rw [lv_osw (k := 45) hk95 (by decide)]; rw [lv_osw (k := 58) hk96 (by decide)]; rw [lv_osw (k := 60) hk97 (by decide)]; rw [lv_osw (k := 63) hk98 (by decide)]; rw [lv_osw (k := 65) hk99 (by decide)]; rw [lv_osw (k := 66) hk100 (by decide)]; rw [hk101]; decide) rfl ?_
                      have h := q84 (Or.inr (Or.inr (Or.inr hk101)))
                      refine ag_aload_n dX1_examineKind_190 rfl (Or.inr ⟨_, rfl⟩) ?_
                      refine ag_aload_n dX1_examineKind_191 rfl (va_rf_or _) ?_
                      refine ag_aload_n dX1_examineKind_192 rfl (va_rf_or _) ?_
                      refine ag_aload_n dX1_examineKind_193 rfl (va_rf_or _) ?_
                      refine ag_iload dX1_examineKind_194 rfl ?_
                      obtain ⟨hT21, h⟩ := h
                      refine cr_callV (as := [va_rf p0, va_rf p1, va_rf p2, .int p3]) (rest := []) dX1_examineKind_196 me_X1_examineTwo mi_X1_examineTwo lk_1_86 hT21 rfl rfl (Nat.le_of_ble_eq_true rfl) ?_
                      refine cM.mono h ?_
                      rintro v C18 ⟨z19, rfl, hL20, h⟩
                      have hT22 := cT.le (C := C) hT3 hL20
                      have hT23 := cT.le (C := C) hT21 hL20
                      show cG _ _ _ _ _ _ [.int z19] _
                      obtain ⟨hb24, h⟩ := h
                      exact ag_ret (v := some (.int z19)) dX1_examineKind_199 ⟨_, rfl, rB_n hb24⟩ ⟨_, rfl, _, rfl, h⟩ rfl
                    · by_cases hk102 : (cI C a1 0) = 68
                      · refine ag_lookup (tgt := 180) (off := 176) dX1_examineKind_4 (by decide) (by rw [lv_osw (k := 33) hk92 (by decide)]; rw [lv_osw (k := 38) hk93 (by decide)]; rw [lv_osw (k := 43) hk94 (by decide)]; rw [lv_osw (k := 45) hk95 (by decide)]; rw [lv_osw (k := 58) hk96 (by decide)]; rw [lv_osw (k := 60) hk97 (by decide)]; rw [lv_osw (k := 63) hk98 (by decide)]; rw [lv_osw (k := 65) hk99 (by decide)]; rw [lv_osw (k := 66) hk100 (by decide)]; rw [lv_osw (k := 67) hk101 (by decide)]; rw [hk102]; decide) rfl ?_
                        have h := q87 (Or.inr hk102)
                        refine ag_aload_n dX1_examineKind_180 rfl (Or.inr ⟨_, rfl⟩) ?_
                        refine ag_aload_n dX1_examineKind_181 rfl (va_rf_or _) ?_
                        refine ag_aload_n dX1_examineKind_182 rfl (va_rf_or _) ?_
                        refine ag_aload_n dX1_examineKind_183 rfl (va_rf_or _) ?_
                        refine ag_iload dX1_examineKind_184 rfl ?_
                        obtain ⟨hT42, h⟩ := h
                        refine cr_callV (as := [va_rf p0, va_rf p1, va_rf p2, .int p3]) (rest := []) dX1_examineKind_186 me_X1_examineHalf mi_X1_examineHalf lk_1_83 hT42 rfl rfl (Nat.le_of_ble_eq_true rfl) ?_
                        refine cM.mono h ?_
                        rintro v C39 ⟨z40, rfl, hL41, h⟩
                        have hT43 := cT.le (C := C) hT3 hL41
                        have hT44 := cT.le (C := C) hT42 hL41
                        show cG _ _ _ _ _ _ [.int z40] _
                        obtain ⟨hb45, h⟩ := h
                        exact ag_ret (v := some (.int z40)) dX1_examineKind_189 ⟨_, rfl, rB_n hb45⟩ ⟨_, rfl, _, rfl, h⟩ rfl
                      · by_cases hk103 : (cI C a1 0) = 69
                        · refine ag_lookup (tgt := 160) (off := 156) dX1_examineKind_4 (by decide) (by rw [lv_osw (k := 33) hk92 (by decide)]; rw [lv_osw (k := 38) hk93 (by decide)]; rw [lv_osw (k := 43) hk94 (by decide)]; rw [lv_osw (k := 45) hk95 (by decide)]; rw [lv_osw (k := 58) hk96 (by decide)]; rw [lv_osw (k := 60) hk97 (by decide)]; rw [lv_osw (k := 63) hk98 (by decide)]; rw [lv_osw (k := 65) hk99 (by decide)]; rw [lv_osw (k := 66) hk100 (by decide)]; rw [lv_osw (k := 67) hk101 (by decide)]; rw [lv_osw (k := 68) hk102 (by decide)]; rw [hk103]; decide) rfl ?_
                          have h := q88 (Or.inr (Or.inl hk103))
                          refine ag_aload_n dX1_examineKind_160 rfl (Or.inr ⟨_, rfl⟩) ?_
                          refine ag_aload_n dX1_examineKind_161 rfl (va_rf_or _) ?_
                          refine ag_aload_n dX1_examineKind_162 rfl (va_rf_or _) ?_
                          refine ag_aload_n dX1_examineKind_163 rfl (va_rf_or _) ?_
                          refine ag_iload dX1_examineKind_164 rfl ?_
                          obtain ⟨hT49, h⟩ := h
                          refine cr_callV (as := [va_rf p0, va_rf p1, va_rf p2, .int p3]) (rest := []) dX1_examineKind_166 me_X1_examineTest mi_X1_examineTest lk_1_77 hT49 rfl rfl (Nat.le_of_ble_eq_true rfl) ?_
                          refine cM.mono h ?_
                          rintro v C46 ⟨z47, rfl, hL48, h⟩
                          have hT50 := cT.le (C := C) hT3 hL48
                          have hT51 := cT.le (C := C) hT49 hL48
                          show cG _ _ _ _ _ _ [.int z47] _
                          obtain ⟨hb52, h⟩ := h
                          exact ag_ret (v := some (.int z47)) dX1_examineKind_169 ⟨_, rfl, rB_n hb52⟩ ⟨_, rfl, _, rfl, h⟩ rfl
                        · by_cases hk104 : (cI C a1 0) = 71
                          · refine ag_lookup (tgt := 240) (off := 236) dX1_examineKind_4 (by decide) (by rw [lv_osw (k := 33) hk92 (by decide)]; rw [lv_osw (k := 38) hk93 (by decide)]; rw [lv_osw (k := 43) hk94 (by decide)]; rw [lv_osw (k := 45) hk95 (by decide)]; rw [lv_osw (k := 58) hk96 (by decide)]; rw [lv_osw (k := 60) hk97 (by decide)]; rw [lv_osw (k := 63) hk98 (by decide)]; rw [lv_osw (k := 65) hk99 (by decide)]; rw [lv_osw (k := 66) hk100 (by decide)]; rw [lv_osw (k := 67) hk101 (by decide)]; rw [lv_osw (k := 68) hk102 (by decide)]; rw [lv_osw (k := 69) hk103 (by decide)]; rw [hk104]; decide) rfl ?_
                            have h := q89 (Or.inl hk104)
                            refine ag_aload_n dX1_examineKind_240 rfl (Or.inr ⟨_, rfl⟩) ?_
                            refine ag_aload_n dX1_examineKind_241 rfl (va_rf_or _) ?_
                            refine ag_aload_n dX1_examineKind_242 rfl (va_rf_or _) ?_
                            refine ag_aload_n dX1_examineKind_243 rfl (va_rf_or _) ?_
                            refine ag_iload dX1_examineKind_244 rfl ?_
                            obtain ⟨hT56, h⟩ := h
                            refine cr_callV (as := [va_rf p0, va_rf p1, va_rf p2, .int p3]) (rest := []) dX1_examineKind_246 me_X1_examineCall mi_X1_examineCall lk_1_101 hT56 rfl rfl (Nat.le_of_ble_eq_true rfl) ?_
                            refine cM.mono h ?_
                            rintro v C53 ⟨z54, rfl, hL55, h⟩
                            have hT57 := cT.le (C := C) hT3 hL55
                            have hT58 := cT.le (C := C) hT56 hL55
                            show cG _ _ _ _ _ _ [.int z54] _
                            obtain ⟨hb59, h⟩ := h
                            exact ag_ret (v := some (.int z54)) dX1_examineKind_249 ⟨_, rfl, rB_n hb59⟩ ⟨_, rfl, _, rfl, h⟩ rfl
                          · by_cases hk105 : (cI C a1 0) = 72
                            · refine ag_lookup (tgt := 240) (off := 236) dX1_examineKind_4 (by decide) (by rw [lv_osw (k := 33) hk92 (by decide)]; rw [lv_osw (k := 38) hk93 (by decide)]; rw [lv_osw (k := 43) hk94 (by decide)]; rw [lv_osw (k := 45) hk95 (by decide)]; rw [lv_osw (k := 58) hk96 (by decide)]; rw [lv_osw (k := 60) hk97 (by decide)]; rw [lv_osw (k := 63) hk98 (by decide)]; rw [lv_osw (k := 65) hk99 (by decide)]; rw [lv_osw (k := 66) hk100 (by decide)]; rw [lv_osw (k := 67) hk101 (by decide)]; rw [lv_osw (k := 68) hk102 (by decide)]; rw [lv_osw (k := 69) hk103 (by decide)]; rw [lv_osw (k := 71) hk104 (by decide)]; rw [hk105]; decide) rfl ?_
                              have h := q89 (Or.inr (Or.inl hk105))
                              refine ag_aload_n dX1_examineKind_240 rfl (Or.inr ⟨_, rfl⟩) ?_
                              refine ag_aload_n dX1_examineKind_241 rfl (va_rf_or _) ?_
                              refine ag_aload_n dX1_examineKind_242 rfl (va_rf_or _) ?_
                              refine ag_aload_n dX1_examineKind_243 rfl (va_rf_or _) ?_
                              refine ag_iload dX1_examineKind_244 rfl ?_
                              obtain ⟨hT56, h⟩ := h
                              refine cr_callV (as := [va_rf p0, va_rf p1, va_rf p2, .int p3]) (rest := []) dX1_examineKind_246 me_X1_examineCall mi_X1_examineCall lk_1_101 hT56 rfl rfl (Nat.le_of_ble_eq_true rfl) ?_
                              refine cM.mono h ?_
                              rintro v C53 ⟨z54, rfl, hL55, h⟩
                              have hT57 := cT.le (C := C) hT3 hL55
                              have hT58 := cT.le (C := C) hT56 hL55
                              show cG _ _ _ _ _ _ [.int z54] _
                              obtain ⟨hb59, h⟩ := h
                              exact ag_ret (v := some (.int z54)) dX1_examineKind_249 ⟨_, rfl, rB_n hb59⟩ ⟨_, rfl, _, rfl, h⟩ rfl
                            · by_cases hk106 : (cI C a1 0) = 73
                              · refine ag_lookup (tgt := 240) (off := 236) dX1_examineKind_4 (by decide) (by rw [lv_osw (k := 33) hk92 (by decide)]; rw [lv_osw (k := 38) hk93 (by decide)]; rw [lv_osw (k := 43) hk94 (by decide)]; rw [lv_osw (k := 45) hk95 (by decide)]; rw [lv_osw (k := 58) hk96 (by decide)]; rw [lv_osw (k := 60) hk97 (by decide)]; rw [lv_osw (k := 63) hk98 (by decide)]; rw [lv_osw (k := 65) hk99 (by decide)]; rw [lv_osw (k := 66) hk100 (by decide)]; rw [lv_osw (k := 67) hk101 (by decide)]; rw [lv_osw (k := 68) hk102 (by decide)]; rw [lv_osw (k := 69) hk103 (by decide)]; rw [lv_osw (k := 71) hk104 (by decide)]; rw [lv_osw (k := 72) hk105 (by decide)]; rw [hk106]; decide) rfl ?_
                                have h := q89 (Or.inr (Or.inr hk106))
                                refine ag_aload_n dX1_examineKind_240 rfl (Or.inr ⟨_, rfl⟩) ?_
                                refine ag_aload_n dX1_examineKind_241 rfl (va_rf_or _) ?_
                                refine ag_aload_n dX1_examineKind_242 rfl (va_rf_or _) ?_
                                refine ag_aload_n dX1_examineKind_243 rfl (va_rf_or _) ?_
                                refine ag_iload dX1_examineKind_244 rfl ?_
                                obtain ⟨hT56, h⟩ := h
                                refine cr_callV (as := [va_rf p0, va_rf p1, va_rf p2, .int p3]) (rest := []) dX1_examineKind_246 me_X1_examineCall mi_X1_examineCall lk_1_101 hT56 rfl rfl (Nat.le_of_ble_eq_true rfl) ?_
                                refine cM.mono h ?_
                                rintro v C53 ⟨z54, rfl, hL55, h⟩
                                have hT57 := cT.le (C := C) hT3 hL55
                                have hT58 := cT.le (C := C) hT56 hL55
                                show cG _ _ _ _ _ _ [.int z54] _
                                obtain ⟨hb59, h⟩ := h
                                exact ag_ret (v := some (.int z54)) dX1_examineKind_249 ⟨_, rfl, rB_n hb59⟩ ⟨_, rfl, _, rfl, h⟩ rfl
                              · by_cases hk107 : (cI C a1 0) = 78
                                · refine ag_lookup (tgt := 160) (off := 156) dX1_examineKind_4 (by decide) (by rw [lv_osw (k := 33) hk92 (by decide)]; rw [lv_osw (k := 38) hk93 (by decide)]; rw [lv_osw (k := 43) hk94 (by decide)]; rw [lv_osw (k := 45) hk95 (by decide)]; rw [lv_osw (k := 58) hk96 (by decide)]; rw [lv_osw (k := 60) hk97 (by decide)]; rw [lv_osw (k := 63) hk98 (by decide)]; rw [lv_osw (k := 65) hk99 (by decide)]; rw [lv_osw (k := 66) hk100 (by decide)]; rw [lv_osw (k := 67) hk101 (by decide)]; rw [lv_osw (k := 68) hk102 (by decide)]; rw [lv_osw (k := 69) hk103 (by decide)]; rw [lv_osw (k := 71) hk104 (by decide)]; rw [lv_osw (k := 72) hk105 (by decide)]; rw [lv_osw (k := 73) hk106 (by decide)]; rw [hk107]; decide) rfl ?_
                                  have h := q88 (Or.inr (Or.inr (Or.inl hk107)))
                                  refine ag_aload_n dX1_examineKind_160 rfl (Or.inr ⟨_, rfl⟩) ?_
                                  refine ag_aload_n dX1_examineKind_161 rfl (va_rf_or _) ?_
                                  refine ag_aload_n dX1_examineKind_162 rfl (va_rf_or _) ?_
                                  refine ag_aload_n dX1_examineKind_163 rfl (va_rf_or _) ?_
                                  refine ag_iload dX1_examineKind_164 rfl ?_
                                  obtain ⟨hT49, h⟩ := h
                                  refine cr_callV (as := [va_rf p0, va_rf p1, va_rf p2, .int p3]) (rest := []) dX1_examineKind_166 me_X1_examineTest mi_X1_examineTest lk_1_77 hT49 rfl rfl (Nat.le_of_ble_eq_true rfl) ?_
                                  refine cM.mono h ?_
                                  rintro v C46 ⟨z47, rfl, hL48, h⟩
                                  have hT50 := cT.le (C := C) hT3 hL48
                                  have hT51 := cT.le (C := C) hT49 hL48
                                  show cG _ _ _ _ _ _ [.int z47] _
                                  obtain ⟨hb52, h⟩ := h
                                  exact ag_ret (v := some (.int z47)) dX1_examineKind_169 ⟨_, rfl, rB_n hb52⟩ ⟨_, rfl, _, rfl, h⟩ rfl
                                · by_cases hk108 : (cI C a1 0) = 80
                                  · refine ag_lookup (tgt := 160) (off := 156) dX1_examineKind_4 (by decide) (by rw [lv_osw (k := 33) hk92 (by decide)]; rw [lv_osw (k := 38) hk93 (by decide)]; rw [lv_osw (k := 43) hk94 (by decide)]; rw [lv_osw (k := 45) hk95 (by decide)]; rw [lv_osw (k := 58) hk96 (by decide)]; rw [lv_osw (k := 60) hk97 (by decide)]; rw [lv_osw (k := 63) hk98 (by decide)]; rw [lv_osw (k := 65) hk99 (by decide)]; rw [lv_osw (k := 66) hk100 (by decide)]; rw [lv_osw (k := 67) hk101 (by decide)]; rw [lv_osw (k := 68) hk102 (by decide)]; rw [lv_osw (k := 69) hk103 (by decide)]; rw [lv_osw (k := 71) hk104 (by decide)]; rw [lv_osw (k := 72) hk105 (by decide)]; rw [lv_osw (k := 73) hk106 (by decide)]; rw [lv_osw (k := 78) hk107 (by decide)]; rw [hk108]; decide) rfl ?_
                                    have h := q88 (Or.inr (Or.inr (Or.inr hk108)))
                                    refine ag_aload_n dX1_examineKind_160 rfl (Or.inr ⟨_, rfl⟩) ?_
                                    refine ag_aload_n dX1_examineKind_161 rfl (va_rf_or _) ?_
                                    refine ag_aload_n dX1_examineKind_162 rfl (va_rf_or _) ?_
                                    refine ag_aload_n dX1_examineKind_163 rfl (va_rf_or _) ?_
                                    refine ag_iload dX1_examineKind_164 rfl ?_
                                    obtain ⟨hT49, h⟩ := h
                                    refine cr_callV (as := [va_rf p0, va_rf p1, va_rf p2, .int p3]) (rest := []) dX1_examineKind_166 me_X1_examineTest mi_X1_examineTest lk_1_77 hT49 rfl rfl (Nat.le_of_ble_eq_true rfl) ?_
                                    refine cM.mono h ?_
                                    rintro v C46 ⟨z47, rfl, hL48, h⟩
                                    have hT50 := cT.le (C := C) hT3 hL48
                                    have hT51 := cT.le (C := C) hT49 hL48
                                    show cG _ _ _ _ _ _ [.int z47] _
                                    obtain ⟨hb52, h⟩ := h
                                    exact ag_ret (v := some (.int z47)) dX1_examineKind_169 ⟨_, rfl, rB_n hb52⟩ ⟨_, rfl, _, rfl, h⟩ rfl
                                  · by_cases hk109 : (cI C a1 0) = 124
                                    · refine ag_lookup (tgt := 220) (off := 216) dX1_examineKind_4 (by decide) (by rw [lv_osw (k := 33) hk92 (by decide)]; rw [lv_osw (k := 38) hk93 (by decide)]; rw [lv_osw (k := 43) hk94 (by decide)]; rw [lv_osw (k := 45) hk95 (by decide)]; rw [lv_osw (k := 58) hk96 (by decide)]; rw [lv_osw (k := 60) hk97 (by decide)]; rw [lv_osw (k := 63) hk98 (by decide)]; rw [lv_osw (k := 65) hk99 (by decide)]; rw [lv_osw (k := 66) hk100 (by decide)]; rw [lv_osw (k := 67) hk101 (by decide)]; rw [lv_osw (k := 68) hk102 (by decide)]; rw [lv_osw (k := 69) hk103 (by decide)]; rw [lv_osw (k := 71) hk104 (by decide)]; rw [lv_osw (k := 72) hk105 (by decide)]; rw [lv_osw (k := 73) hk106 (by decide)]; rw [lv_osw (k := 78) hk107 (by decide)]; rw [lv_osw (k := 80) hk108 (by decide)]; rw [hk109]; decide) rfl ?_
                                      have h := q90 hk109
                                      refine ag_aload_n dX1_examineKind_220 rfl (Or.inr ⟨_, rfl⟩) ?_
                                      refine ag_aload_n dX1_examineKind_221 rfl (va_rf_or _) ?_
                                      refine ag_aload_n dX1_examineKind_222 rfl (va_rf_or _) ?_
                                      refine ag_aload_n dX1_examineKind_223 rfl (va_rf_or _) ?_
                                      refine ag_iload dX1_examineKind_224 rfl ?_
                                      obtain ⟨hT63, h⟩ := h
                                      refine cr_callV (as := [va_rf p0, va_rf p1, va_rf p2, .int p3]) (rest := []) dX1_examineKind_226 me_X1_examineOr mi_X1_examineOr lk_1_95 hT63 rfl rfl (Nat.le_of_ble_eq_true rfl) ?_
                                      refine cM.mono h ?_
                                      rintro v C60 ⟨z61, rfl, hL62, h⟩
                                      have hT64 := cT.le (C := C) hT3 hL62
                                      have hT65 := cT.le (C := C) hT63 hL62
                                      show cG _ _ _ _ _ _ [.int z61] _
                                      obtain ⟨hb66, h⟩ := h
                                      exact ag_ret (v := some (.int z61)) dX1_examineKind_229 ⟨_, rfl, rB_n hb66⟩ ⟨_, rfl, _, rfl, h⟩ rfl
                                    · refine ag_lookup (tgt := 250) (off := 246) dX1_examineKind_4 (by decide) (by rw [lv_osw (k := 33) hk92 (by decide)]; rw [lv_osw (k := 38) hk93 (by decide)]; rw [lv_osw (k := 43) hk94 (by decide)]; rw [lv_osw (k := 45) hk95 (by decide)]; rw [lv_osw (k := 58) hk96 (by decide)]; rw [lv_osw (k := 60) hk97 (by decide)]; rw [lv_osw (k := 63) hk98 (by decide)]; rw [lv_osw (k := 65) hk99 (by decide)]; rw [lv_osw (k := 66) hk100 (by decide)]; rw [lv_osw (k := 67) hk101 (by decide)]; rw [lv_osw (k := 68) hk102 (by decide)]; rw [lv_osw (k := 69) hk103 (by decide)]; rw [lv_osw (k := 71) hk104 (by decide)]; rw [lv_osw (k := 72) hk105 (by decide)]; rw [lv_osw (k := 73) hk106 (by decide)]; rw [lv_osw (k := 78) hk107 (by decide)]; rw [lv_osw (k := 80) hk108 (by decide)]; rw [lv_osw (k := 124) hk109 (by decide)]; rfl) rfl ?_
                                      have h := q91 ⟨hk92, hk93, hk94, hk95, hk96, hk97, hk98, hk99, hk100, hk101, hk102, hk103, hk104, hk105, hk106, hk107, hk108, hk109⟩
                                      refine ag_aload_n dX1_examineKind_250 rfl (va_rf_or _) ?_
                                      refine cr_stk (st' := [.ref a1]) (by rw [hr2]; rfl) ?_
                                      refine cr_get (v := .int (cI C a1 3)) dX1_examineKind_251 fw_1_104 hT3 rfl ?_
                                      refine ag_iconst (v := (-1)) dX1_examineKind_254 rfl ?_
                                      refine ag_icmp_ne (tgt := 268) dX1_examineKind_255 rfl (fun hc67 => ?_) (fun hc67 => ?_)
                                      · have h := h.1 hc67
                                        refine ag_aload_n dX1_examineKind_268 rfl (Or.inr ⟨_, rfl⟩) ?_
                                        refine ag_aload_n dX1_examineKind_269 rfl (va_rf_or _) ?_
                                        refine ag_aload_n dX1_examineKind_270 rfl (va_rf_or _) ?_
                                        refine ag_aload_n dX1_examineKind_271 rfl (va_rf_or _) ?_
                                        obtain ⟨hT71, h⟩ := h
                                        refine cr_callV (as := [va_rf p0, va_rf p1, va_rf p2]) (rest := []) dX1_examineKind_272 me_X1_examineVariable mi_X1_examineVariable lk_1_111 hT71 rfl rfl (Nat.le_of_ble_eq_true rfl) ?_
                                        refine cM.mono h ?_
                                        rintro v C68 ⟨z69, rfl, hL70, h⟩
                                        have hT72 := cT.le (C := C) hT3 hL70
                                        have hT73 := cT.le (C := C) hT71 hL70
                                        show cG _ _ _ _ _ _ [.int z69] _
                                        obtain ⟨hb74, h⟩ := h
                                        exact ag_ret (v := some (.int z69)) dX1_examineKind_275 ⟨_, rfl, rB_n hb74⟩ ⟨_, rfl, _, rfl, h⟩ rfl
                                      · have h := h.2 hc67
                                        refine ag_aload_n dX1_examineKind_258 rfl (Or.inr ⟨_, rfl⟩) ?_
                                        refine ag_aload_n dX1_examineKind_259 rfl (va_rf_or _) ?_
                                        refine ag_aload_n dX1_examineKind_260 rfl (va_rf_or _) ?_
                                        refine ag_aload_n dX1_examineKind_261 rfl (va_rf_or _) ?_
                                        obtain ⟨hT78, h⟩ := h
                                        refine cr_callV (as := [va_rf p0, va_rf p1, va_rf p2]) (rest := []) dX1_examineKind_262 me_X1_examineConstant mi_X1_examineConstant lk_1_107 hT78 rfl rfl (Nat.le_of_ble_eq_true rfl) ?_
                                        refine cM.mono h ?_
                                        rintro v C75 ⟨z76, rfl, hL77, h⟩
                                        have hT79 := cT.le (C := C) hT3 hL77
                                        have hT80 := cT.le (C := C) hT78 hL77
                                        show cG _ _ _ _ _ _ [.int z76] _
                                        refine ag_goto (tgt := 275) dX1_examineKind_265 rfl ?_
                                        obtain ⟨hb81, h⟩ := h
                                        exact ag_ret (v := some (.int z76)) dX1_examineKind_275 ⟨_, rfl, rB_n hb81⟩ ⟨_, rfl, _, rfl, h⟩ rfl
theorem dX1_examineConstant_0 : decode cX1_examineConstant 0 = .ok (.aload_n 1, 1) := by decide +kernel
theorem dX1_examineConstant_1 : decode cX1_examineConstant 1 = .ok (.getfield 74, 3) := by decide +kernel
theorem dX1_examineConstant_4 : decode cX1_examineConstant 4 = .ok (.bipush 35, 2) := by decide +kernel
theorem dX1_examineConstant_6 : decode cX1_examineConstant 6 = .ok (.if_icmp .ne 7, 3) := by decide +kernel
theorem dX1_examineConstant_9 : decode cX1_examineConstant 9 = .ok (.iconst 2, 1) := by decide +kernel
theorem dX1_examineConstant_10 : decode cX1_examineConstant 10 = .ok (.goto 31, 3) := by decide +kernel
theorem dX1_examineConstant_13 : decode cX1_examineConstant 13 = .ok (.aload_n 1, 1) := by decide +kernel
theorem dX1_examineConstant_14 : decode cX1_examineConstant 14 = .ok (.getfield 74, 3) := by decide +kernel
theorem dX1_examineConstant_17 : decode cX1_examineConstant 17 = .ok (.bipush 126, 2) := by decide +kernel
theorem dX1_examineConstant_19 : decode cX1_examineConstant 19 = .ok (.if_icmp .ne 7, 3) := by decide +kernel
theorem dX1_examineConstant_22 : decode cX1_examineConstant 22 = .ok (.iconst 4, 1) := by decide +kernel
theorem dX1_examineConstant_23 : decode cX1_examineConstant 23 = .ok (.goto 18, 3) := by decide +kernel
theorem dX1_examineConstant_26 : decode cX1_examineConstant 26 = .ok (.aload_n 1, 1) := by decide +kernel
theorem dX1_examineConstant_27 : decode cX1_examineConstant 27 = .ok (.getfield 74, 3) := by decide +kernel
theorem dX1_examineConstant_30 : decode cX1_examineConstant 30 = .ok (.bipush 46, 2) := by decide +kernel
theorem dX1_examineConstant_32 : decode cX1_examineConstant 32 = .ok (.if_icmp .ne 8, 3) := by decide +kernel
theorem dX1_examineConstant_35 : decode cX1_examineConstant 35 = .ok (.bipush 8, 2) := by decide +kernel
theorem dX1_examineConstant_37 : decode cX1_examineConstant 37 = .ok (.goto 4, 3) := by decide +kernel
theorem dX1_examineConstant_40 : decode cX1_examineConstant 40 = .ok (.iconst 1, 1) := by decide +kernel
theorem dX1_examineConstant_41 : decode cX1_examineConstant 41 = .ok (.istore 4, 2) := by decide +kernel
theorem dX1_examineConstant_43 : decode cX1_examineConstant 43 = .ok (.aload_n 3, 1) := by decide +kernel
theorem dX1_examineConstant_44 : decode cX1_examineConstant 44 = .ok (.iload 4, 2) := by decide +kernel
theorem dX1_examineConstant_46 : decode cX1_examineConstant 46 = .ok (.iconst (-1), 1) := by decide +kernel
theorem dX1_examineConstant_47 : decode cX1_examineConstant 47 = .ok (.aload_n 2, 1) := by decide +kernel
theorem dX1_examineConstant_48 : decode cX1_examineConstant 48 = .ok (.invokevirtual 114, 3) := by decide +kernel
theorem dX1_examineConstant_51 : decode cX1_examineConstant 51 = .ok (.iconst 1, 1) := by decide +kernel
theorem dX1_examineConstant_52 : decode cX1_examineConstant 52 = .ok (.ireturn, 1) := by decide +kernel
set_option maxRecDepth 20000 in
set_option maxHeartbeats 4000000 in
theorem w_X1_examineConstant {c : cX} {d : Nat} {C : cS} {K : Option Value → cS → Prop} (t : Nat) (p0 : Option Nat) (p1 : Option Nat) (p2 : Option Nat) (h : ∃ a1 : Nat, p0 = some a1 ∧ (cT C a1 5 7 ∧ ((¬ (cI C a1 0) = 35 → ((¬ (cI C a1 0) = 126 → ((¬ (cI C a1 0) = 46 → (∃ a7 : Nat, p2 = some a7 ∧ (cT C a7 2 4 ∧ (cM c d eX2_assign (.ref a7 :: [.int 1, .int (-1), va_rf p1]) C (fun v C9 => v = none ∧ cle C C9 ∧ (K (some (.int 1)) C9)))))) ∧ ((cI C a1 0) = 46 → (∃ a15 : Nat, p2 = some a15 ∧ (cT C a15 2 4 ∧ (cM c d eX2_assign (.ref a15 :: [.int 8, .int (-1), va_rf p1]) C (fun v C17 => v = none ∧ cle C C17 ∧ (K (some (.int 1)) C17)))))))) ∧ ((cI C a1 0) = 126 → (∃ a23 : Nat, p2 = some a23 ∧ (cT C a23 2 4 ∧ (cM c d eX2_assign (.ref a23 :: [.int 4, .int (-1), va_rf p1]) C (fun v C25 => v = none ∧ cle C C25 ∧ (K (some (.int 1)) C25)))))))) ∧ ((cI C a1 0) = 35 → (∃ a31 : Nat, p2 = some a31 ∧ (cT C a31 2 4 ∧ (cM c d eX2_assign (.ref a31 :: [.int 2, .int (-1), va_rf p1]) C (fun v C33 => v = none ∧ cle C C33 ∧ (K (some (.int 1)) C33))))))))) : cM c (d + 1) eX1_examineConstant [.ref t, va_rf p0, va_rf p1, va_rf p2] C K := by
  refine cM.of2 (lv := [some (.ref t), some (va_rf p0), some (va_rf p1), some (va_rf p2), none]) (by decide) (by simp only [am_sl_i, am_sl_r, am_sl_l, am_sl_o, am_sl_n]; exact Nat.le_of_ble_eq_true rfl) (by simp only [am_en, am_sl_i, am_sl_r, am_sl_l, am_sl_o, am_sl_n]; rfl) ?_
  refine ag_aload_n dX1_examineConstant_0 rfl (va_rf_or _) ?_
  obtain ⟨a1, hr2, h⟩ := h
  refine cr_stk (st' := [.ref a1]) (by rw [hr2]; rfl) ?_
  obtain ⟨hT3, h⟩ := h
  refine cr_get (v := .int (cI C a1 0)) dX1_examineConstant_1 fw_1_74 hT3 rfl ?_
  refine ag_bipush (v := 35) dX1_examineConstant_4 (by decide) ?_
  refine ag_icmp_ne (tgt := 13) dX1_examineConstant_6 rfl (fun hc4 => ?_) (fun hc4 => ?_)
  · have h := h.1 hc4
    refine ag_aload_n dX1_examineConstant_13 rfl (va_rf_or _) ?_
    refine cr_stk (st' := [.ref a1]) (by rw [hr2]; rfl) ?_
    refine cr_get (v := .int (cI C a1 0)) dX1_examineConstant_14 fw_1_74 hT3 rfl ?_
    refine ag_bipush (v := 126) dX1_examineConstant_17 (by decide) ?_
    refine ag_icmp_ne (tgt := 26) dX1_examineConstant_19 rfl (fun hc5 => ?_) (fun hc5 => ?_)
    · have h := h.1 hc5
      refine ag_aload_n dX1_examineConstant_26 rfl (va_rf_or _) ?_
      refine cr_stk (st' := [.ref a1]) (by rw [hr2]; rfl) ?_
      refine cr_get (v := .int (cI C a1 0)) dX1_examineConstant_27 fw_1_74 hT3 rfl ?_
      refine ag_bipush (v := 46) dX1_examineConstant_30 (by decide) ?_
      refine ag_icmp_ne (tgt := 40) dX1_examineConstant_32 rfl (fun hc6 => ?_) (fun hc6 => ?_)
      · have h := h.1 hc6
        refine ag_iconst (v := 1) dX1_examineConstant_40 rfl ?_
        refine ag_istore (lv2 := [some (.ref t), some (va_rf p0), some (va_rf p1), some (va_rf p2), some (.int 1)]) dX1_examineConstant_41 (Nat.le_of_ble_eq_true rfl) (by simp [am_st1, am_kill, va_rf_cat] <;> rfl) ?_
        refine ag_aload_n dX1_examineConstant_43 rfl (va_rf_or _) ?_
        refine ag_iload dX1_examineConstant_44 rfl ?_
        refine ag_iconst (v := (-1)) dX1_examineConstant_46 rfl ?_
        refine ag_aload_n dX1_examineConstant_47 rfl (va_rf_or _) ?_
        obtain ⟨a7, hr8, h⟩ := h
        refine cr_stk (st' := [va_rf p1, .int (-1), .int 1, .ref a7]) (by rw [hr8]; rfl) ?_
        obtain ⟨hT12, h⟩ := h
        refine cr_callV (as := [.int 1, .int (-1), va_rf p1]) (rest := []) dX1_examineConstant_48 me_X2_assign mi_X2_assign lk_1_114 hT12 rfl rfl (Nat.le_of_ble_eq_true rfl) ?_
        refine cM.mono h ?_
        rintro v C9 ⟨rfl, hL11, h⟩
        have hT13 := cT.le (C := C) hT3 hL11
        have hT14 := cT.le (C := C) hT12 hL11
        show cG _ _ _ _ _ _ [] _
        refine ag_iconst (v := 1) dX1_examineConstant_51 rfl ?_
        exact ag_ret (v := some (.int 1)) dX1_examineConstant_52 ⟨_, rfl, rB_n (Or.inr rfl)⟩ ⟨_, rfl, _, rfl, h⟩ rfl
      · have h := h.2 hc6
        refine ag_bipush (v := 8) dX1_examineConstant_35 (by decide) ?_
        refine ag_goto (tgt := 41) dX1_examineConstant_37 rfl ?_
        refine ag_istore (lv2 := [some (.ref t), some (va_rf p0), some (va_rf p1), some (va_rf p2), some (.int 8)]) dX1_examineConstant_41 (Nat.le_of_ble_eq_true rfl) (by simp [am_st1, am_kill, va_rf_cat] <;> rfl) ?_
        refine ag_aload_n dX1_examineConstant_43 rfl (va_rf_or _) ?_
        refine ag_iload dX1_examineConstant_44 rfl ?_
        refine ag_iconst (v := (-1)) dX1_examineConstant_46 rfl ?_
        refine ag_aload_n dX1_examineConstant_47 rfl (va_rf_or _) ?_
        obtain ⟨a15, hr16, h⟩ := h
        refine cr_stk (st' := [va_rf p1, .int (-1), .int 8, .ref a15]) (by rw [hr16]; rfl) ?_
        obtain ⟨hT20, h⟩ := h
        refine cr_callV (as := [.int 8, .int (-1), va_rf p1]) (rest := []) dX1_examineConstant_48 me_X2_assign mi_X2_assign lk_1_114 hT20 rfl rfl (Nat.le_of_ble_eq_true rfl) ?_
        refine cM.mono h ?_
        rintro v C17 ⟨rfl, hL19, h⟩
        have hT21 := cT.le (C := C) hT3 hL19
        have hT22 := cT.le (C := C) hT20 hL19
        show cG _ _ _ _ _ _ [] _
        refine ag_iconst (v := 1) dX1_examineConstant_51 rfl ?_
        exact ag_ret (v := some (.int 1)) dX1_examineConstant_52 ⟨_, rfl, rB_n (Or.inr rfl)⟩ ⟨_, rfl, _, rfl, h⟩ rfl
    · have h := h.2 hc5
      refine ag_iconst (v := 4) dX1_examineConstant_22 rfl ?_
      refine ag_goto (tgt := 41) dX1_examineConstant_23 rfl ?_
      refine ag_istore (lv2 := [some (.ref t), some (va_rf p0), some (va_rf p1), some (va_rf p2), some (.int 4)]) dX1_examineConstant_41 (Nat.le_of_ble_eq_true rfl) (by simp [am_st1, am_kill, va_rf_cat] <;> rfl) ?_
      refine ag_aload_n dX1_examineConstant_43 rfl (va_rf_or _) ?_
      refine ag_iload dX1_examineConstant_44 rfl ?_
      refine ag_iconst (v := (-1)) dX1_examineConstant_46 rfl ?_
      refine ag_aload_n dX1_examineConstant_47 rfl (va_rf_or _) ?_
      obtain ⟨a23, hr24, h⟩ := h
      refine cr_stk (st' := [va_rf p1, .int (-1), .int 4, .ref a23]) (by rw [hr24]; rfl) ?_
      obtain ⟨hT28, h⟩ := h
      refine cr_callV (as := [.int 4, .int (-1), va_rf p1]) (rest := []) dX1_examineConstant_48 me_X2_assign mi_X2_assign lk_1_114 hT28 rfl rfl (Nat.le_of_ble_eq_true rfl) ?_
      refine cM.mono h ?_
      rintro v C25 ⟨rfl, hL27, h⟩
      have hT29 := cT.le (C := C) hT3 hL27
      have hT30 := cT.le (C := C) hT28 hL27
      show cG _ _ _ _ _ _ [] _
      refine ag_iconst (v := 1) dX1_examineConstant_51 rfl ?_
      exact ag_ret (v := some (.int 1)) dX1_examineConstant_52 ⟨_, rfl, rB_n (Or.inr rfl)⟩ ⟨_, rfl, _, rfl, h⟩ rfl
  · have h := h.2 hc4
    refine ag_iconst (v := 2) dX1_examineConstant_9 rfl ?_
    refine ag_goto (tgt := 41) dX1_examineConstant_10 rfl ?_
    refine ag_istore (lv2 := [some (.ref t), some (va_rf p0), some (va_rf p1), some (va_rf p2), some (.int 2)]) dX1_examineConstant_41 (Nat.le_of_ble_eq_true rfl) (by simp [am_st1, am_kill, va_rf_cat] <;> rfl) ?_
    refine ag_aload_n dX1_examineConstant_43 rfl (va_rf_or _) ?_
    refine ag_iload dX1_examineConstant_44 rfl ?_
    refine ag_iconst (v := (-1)) dX1_examineConstant_46 rfl ?_
    refine ag_aload_n dX1_examineConstant_47 rfl (va_rf_or _) ?_
    obtain ⟨a31, hr32, h⟩ := h
    refine cr_stk (st' := [va_rf p1, .int (-1), .int 2, .ref a31]) (by rw [hr32]; rfl) ?_
    obtain ⟨hT36, h⟩ := h
    refine cr_callV (as := [.int 2, .int (-1), va_rf p1]) (rest := []) dX1_examineConstant_48 me_X2_assign mi_X2_assign lk_1_114 hT36 rfl rfl (Nat.le_of_ble_eq_true rfl) ?_
    refine cM.mono h ?_
    rintro v C33 ⟨rfl, hL35, h⟩
    have hT37 := cT.le (C := C) hT3 hL35
    have hT38 := cT.le (C := C) hT36 hL35
    show cG _ _ _ _ _ _ [] _
    refine ag_iconst (v := 1) dX1_examineConstant_51 rfl ?_
    exact ag_ret (v := some (.int 1)) dX1_examineConstant_52 ⟨_, rfl, rB_n (Or.inr rfl)⟩ ⟨_, rfl, _, rfl, h⟩ rfl
theorem dX1_examineVariable_0 : decode cX1_examineVariable 0 = .ok (.aload_n 1, 1) := by decide +kernel
theorem dX1_examineVariable_1 : decode cX1_examineVariable 1 = .ok (.getfield 104, 3) := by decide +kernel
theorem dX1_examineVariable_4 : decode cX1_examineVariable 4 = .ok (.ifCond .lt 12, 3) := by decide +kernel
theorem dX1_examineVariable_7 : decode cX1_examineVariable 7 = .ok (.aload_n 1, 1) := by decide +kernel
theorem dX1_examineVariable_8 : decode cX1_examineVariable 8 = .ok (.getfield 104, 3) := by decide +kernel
theorem dX1_examineVariable_11 : decode cX1_examineVariable 11 = .ok (.bipush 17, 2) := by decide +kernel
theorem dX1_examineVariable_13 : decode cX1_examineVariable 13 = .ok (.if_icmp .lt 9, 3) := by decide +kernel
theorem dX1_examineVariable_16 : decode cX1_examineVariable 16 = .ok (.aload_n 0, 1) := by decide +kernel
theorem dX1_examineVariable_17 : decode cX1_examineVariable 17 = .ok (.aload_n 1, 1) := by decide +kernel
theorem dX1_examineVariable_18 : decode cX1_examineVariable 18 = .ok (.invokevirtual 118, 3) := by decide +kernel
theorem dX1_examineVariable_21 : decode cX1_examineVariable 21 = .ok (.ireturn, 1) := by decide +kernel
theorem dX1_examineVariable_22 : decode cX1_examineVariable 22 = .ok (.aload_n 0, 1) := by decide +kernel
theorem dX1_examineVariable_23 : decode cX1_examineVariable 23 = .ok (.aload_n 0, 1) := by decide +kernel
theorem dX1_examineVariable_24 : decode cX1_examineVariable 24 = .ok (.getfield 23, 3) := by decide +kernel
theorem dX1_examineVariable_27 : decode cX1_examineVariable 27 = .ok (.aload_n 1, 1) := by decide +kernel
theorem dX1_examineVariable_28 : decode cX1_examineVariable 28 = .ok (.getfield 104, 3) := by decide +kernel
theorem dX1_examineVariable_31 : decode cX1_examineVariable 31 = .ok (.iaload, 1) := by decide +kernel
theorem dX1_examineVariable_32 : decode cX1_examineVariable 32 = .ok (.aload_n 2, 1) := by decide +kernel
theorem dX1_examineVariable_33 : decode cX1_examineVariable 33 = .ok (.aload_n 3, 1) := by decide +kernel
theorem dX1_examineVariable_34 : decode cX1_examineVariable 34 = .ok (.invokevirtual 122, 3) := by decide +kernel
theorem dX1_examineVariable_37 : decode cX1_examineVariable 37 = .ok (.aload_n 0, 1) := by decide +kernel
theorem dX1_examineVariable_38 : decode cX1_examineVariable 38 = .ok (.getfield 27, 3) := by decide +kernel
theorem dX1_examineVariable_41 : decode cX1_examineVariable 41 = .ok (.aload_n 1, 1) := by decide +kernel
theorem dX1_examineVariable_42 : decode cX1_examineVariable 42 = .ok (.getfield 104, 3) := by decide +kernel
theorem dX1_examineVariable_45 : decode cX1_examineVariable 45 = .ok (.aaload, 1) := by decide +kernel
theorem dX1_examineVariable_46 : decode cX1_examineVariable 46 = .ok (.astore 4, 2) := by decide +kernel
theorem dX1_examineVariable_48 : decode cX1_examineVariable 48 = .ok (.aload 4, 2) := by decide +kernel
theorem dX1_examineVariable_50 : decode cX1_examineVariable 50 = .ok (.ifnull 27, 3) := by decide +kernel
theorem dX1_examineVariable_53 : decode cX1_examineVariable 53 = .ok (.aload_n 3, 1) := by decide +kernel
theorem dX1_examineVariable_54 : decode cX1_examineVariable 54 = .ok (.getfield 126, 3) := by decide +kernel
theorem dX1_examineVariable_57 : decode cX1_examineVariable 57 = .ok (.aload 4, 2) := by decide +kernel
theorem dX1_examineVariable_59 : decode cX1_examineVariable 59 = .ok (.getfield 126, 3) := by decide +kernel
theorem dX1_examineVariable_62 : decode cX1_examineVariable 62 = .ok (.invokevirtual 129, 3) := by decide +kernel
theorem dX1_examineVariable_65 : decode cX1_examineVariable 65 = .ok (.aload_n 3, 1) := by decide +kernel
theorem dX1_examineVariable_66 : decode cX1_examineVariable 66 = .ok (.getfield 133, 3) := by decide +kernel
theorem dX1_examineVariable_69 : decode cX1_examineVariable 69 = .ok (.aload 4, 2) := by decide +kernel
theorem dX1_examineVariable_71 : decode cX1_examineVariable 71 = .ok (.getfield 133, 3) := by decide +kernel
theorem dX1_examineVariable_74 : decode cX1_examineVariable 74 = .ok (.invokevirtual 129, 3) := by decide +kernel
theorem dX1_examineVariable_77 : decode cX1_examineVariable 77 = .ok (.iconst 1, 1) := by decide +kernel
theorem dX1_examineVariable_78 : decode cX1_examineVariable 78 = .ok (.ireturn, 1) := by decide +kernel
set_option maxRecDepth 20000 in
set_option maxHeartbeats 4000000 in
theorem w_X1_examineVariable {c : cX} {d : Nat} {C : cS} {K : Option Value → cS → Prop} (t : Nat) (p0 : Option Nat) (p1 : Option Nat) (p2 : Option Nat) (h : ∃ a1 : Nat, p0 = some a1 ∧ (cT C a1 5 7 ∧ (((cI C a1 3) < 0 → (cT C t 1 7 ∧ (cM c d eX1_refuse (.ref t :: [va_rf p0]) C (fun v C5 => ∃ z6 : Int32, v = some (.int z6) ∧ cle C C5 ∧ (rB z6 ∧ K (some (.int z6)) C5))))) ∧ (¬ (cI C a1 3) < 0 → (((cI C a1 3) < 17 → (cT C t 1 7 ∧ (∃ a14 : Nat, (cR C t 2) = some a14 ∧ (∃ n17 : Nat, cT C a14 20 n17 ∧ (∃ j18 : Nat, am_ix (cI C a1 3) j18 n17 ∧ (cM c d eX1_assignPlace (.ref t :: [.int (cI C a14 j18), va_rf p1, va_rf p2]) C (fun v C20 => v = none ∧ cle C C20 ∧ (∃ a26 : Nat, (cR C20 t 3) = some a26 ∧ (∃ n29 : Nat, cT C20 a26 25 n29 ∧ (∃ j30 : Nat, am_ix (cI C20 a1 3) j30 n29 ∧ (((cR C20 a26 j30) = none → (K (some (.int 1)) C20)) ∧ (∀ a33 : Nat, (cR C20 a26 j30) = some a33 → (∃ a34 : Nat, p2 = some a34 ∧ (cT C20 a34 2 4 ∧ (cT C20 a33 2 4 ∧ (∃ a38 : Nat, (cR C20 a34 2) = some a38 ∧ (cT C20 a38 8 2 ∧ (cM c d eX8_keepBoth (.ref a38 :: [va_rf (cR C20 a33 2)]) C20 (fun v C40 => v = none ∧ cle C20 C40 ∧ (∃ a51 : Nat, (cR C40 a34 3) = some a51 ∧ (cT C40 a51 8 2 ∧ (cM c d eX8_keepBoth (.ref a51 :: [va_rf (cR C40 a33 3)]) C40 (fun v C53 => v = none ∧ cle C40 C53 ∧ (K (some (.int 1)) C53)))))))))))))))))))))))) ∧ (¬ (cI C a1 3) < 17 → (cT C t 1 7 ∧ (cM c d eX1_refuse (.ref t :: [va_rf p0]) C (fun v C65 => ∃ z66 : Int32, v = some (.int z66) ∧ cle C C65 ∧ (rB z66 ∧ K (some (.int z66)) C65)))))))))) : cM c (d + 1) eX1_examineVariable [.ref t, va_rf p0, va_rf p1, va_rf p2] C K := by
  refine cM.of2 (lv := [some (.ref t), some (va_rf p0), some (va_rf p1), some (va_rf p2), none]) (by decide) (by simp only [am_sl_i, am_sl_r, am_sl_l, am_sl_o, am_sl_n]; exact Nat.le_of_ble_eq_true rfl) (by simp only [am_en, am_sl_i, am_sl_r, am_sl_l, am_sl_o, am_sl_n]; rfl) ?_
  refine ag_aload_n dX1_examineVariable_0 rfl (va_rf_or _) ?_
  obtain ⟨a1, hr2, h⟩ := h
  refine cr_stk (st' := [.ref a1]) (by rw [hr2]; rfl) ?_
  obtain ⟨hT3, h⟩ := h
  refine cr_get (v := .int (cI C a1 3)) dX1_examineVariable_1 fw_1_104 hT3 rfl ?_
  refine ag_if_lt (tgt := 16) dX1_examineVariable_4 rfl (fun hc4 => ?_) (fun hc4 => ?_)
  · have h := h.1 hc4
    refine ag_aload_n dX1_examineVariable_16 rfl (Or.inr ⟨_, rfl⟩) ?_
    refine ag_aload_n dX1_examineVariable_17 rfl (va_rf_or _) ?_
    obtain ⟨hT8, h⟩ := h
    refine cr_callV (as := [va_rf p0]) (rest := []) dX1_examineVariable_18 me_X1_refuse mi_X1_refuse lk_1_118 hT8 rfl rfl (Nat.le_of_ble_eq_true rfl) ?_
    refine cM.mono h ?_
    rintro v C5 ⟨z6, rfl, hL7, h⟩
    have hT9 := cT.le (C := C) hT3 hL7
    have hT10 := cT.le (C := C) hT8 hL7
    show cG _ _ _ _ _ _ [.int z6] _
    obtain ⟨hb11, h⟩ := h
    exact ag_ret (v := some (.int z6)) dX1_examineVariable_21 ⟨_, rfl, rB_n hb11⟩ ⟨_, rfl, _, rfl, h⟩ rfl
  · have h := h.2 hc4
    refine ag_aload_n dX1_examineVariable_7 rfl (va_rf_or _) ?_
    refine cr_stk (st' := [.ref a1]) (by rw [hr2]; rfl) ?_
    refine cr_get (v := .int (cI C a1 3)) dX1_examineVariable_8 fw_1_104 hT3 rfl ?_
    refine ag_bipush (v := 17) dX1_examineVariable_11 (by decide) ?_
    refine ag_icmp_lt (tgt := 22) dX1_examineVariable_13 rfl (fun hc12 => ?_) (fun hc12 => ?_)
    · have h := h.1 hc12
      refine ag_aload_n dX1_examineVariable_22 rfl (Or.inr ⟨_, rfl⟩) ?_
      refine ag_aload_n dX1_examineVariable_23 rfl (Or.inr ⟨_, rfl⟩) ?_
      obtain ⟨hT13, h⟩ := h
      refine cr_get (v := va_rf (cR C t 2)) dX1_examineVariable_24 fw_1_23 hT13 rfl ?_
      refine ag_aload_n dX1_examineVariable_27 rfl (va_rf_or _) ?_
      refine cr_stk (st' := [.ref a1, va_rf (cR C t 2), .ref t]) (by rw [hr2]; rfl) ?_
      refine cr_get (v := .int (cI C a1 3)) dX1_examineVariable_28 fw_1_104 hT3 rfl ?_
      obtain ⟨a14, hr15, h⟩ := h
      refine cr_stk (st' := [.int (cI C a1 3), .ref a14, .ref t]) (by rw [hr15]; rfl) ?_
      obtain ⟨n17, hT16, h⟩ := h
      obtain ⟨j18, hj19, h⟩ := h
      refine cr_il (v := (cI C a14 j18)) dX1_examineVariable_31 hT16 hj19 rfl ?_
      refine ag_aload_n dX1_examineVariable_32 rfl (va_rf_or _) ?_
      refine ag_aload_n dX1_examineVariable_33 rfl (va_rf_or _) ?_
      refine cr_callV (as := [.int (cI C a14 j18), va_rf p1, va_rf p2]) (rest := []) dX1_examineVariable_34 me_X1_assignPlace mi_X1_assignPlace lk_1_122 hT13 rfl rfl (Nat.le_of_ble_eq_true rfl) ?_
      refine cM.mono h ?_
      rintro v C20 ⟨rfl, hL22, h⟩
      have hT23 := cT.le (C := C) hT3 hL22
      have hT24 := cT.le (C := C) hT13 hL22
      have hT25 := cT.le (C := C) hT16 hL22
      show cG _ _ _ _ _ _ [] _
      refine ag_aload_n dX1_examineVariable_37 rfl (Or.inr ⟨_, rfl⟩) ?_
      refine cr_get (v := va_rf (cR C20 t 3)) dX1_examineVariable_38 fw_1_27 hT24 rfl ?_
      refine ag_aload_n dX1_examineVariable_41 rfl (va_rf_or _) ?_
      refine cr_stk (st' := [.ref a1, va_rf (cR C20 t 3)]) (by rw [hr2]; rfl) ?_
      refine cr_get (v := .int (cI C20 a1 3)) dX1_examineVariable_42 fw_1_104 hT23 rfl ?_
      obtain ⟨a26, hr27, h⟩ := h
      refine cr_stk (st' := [.int (cI C20 a1 3), .ref a26]) (by rw [hr27]; rfl) ?_
      obtain ⟨n29, hT28, h⟩ := h
      obtain ⟨j30, hj31, h⟩ := h
      refine cr_al (r := (cR C20 a26 j30)) dX1_examineVariable_45 hT28 (by decide) hj31 rfl ?_
      refine ag_astore (lv2 := [some (.ref t), some (va_rf p0), some (va_rf p1), some (va_rf p2), some (va_rf (cR C20 a26 j30))]) dX1_examineVariable_46 (Nat.le_of_ble_eq_true rfl) (by simp [am_st1, am_kill, va_rf_cat] <;> rfl) (va_rf_or _) ?_
      refine ag_aload dX1_examineVariable_48 rfl (va_rf_or _) ?_
      refine cr_ifnull (tgt := 77) dX1_examineVariable_50 rfl (fun hr32 => ?_) (fun a33 hr32 => ?_)
      · have h := h.1 hr32
        refine ag_iconst (v := 1) dX1_examineVariable_77 rfl ?_
        exact ag_ret (v := some (.int 1)) dX1_examineVariable_78 ⟨_, rfl, rB_n (Or.inr rfl)⟩ ⟨_, rfl, _, rfl, h⟩ rfl
      · have h := h.2 a33 hr32
        refine ag_aload_n dX1_examineVariable_53 rfl (va_rf_or _) ?_
        obtain ⟨a34, hr35, h⟩ := h
        refine cr_stk (st' := [.ref a34]) (by rw [hr35]; rfl) ?_
        obtain ⟨hT36, h⟩ := h
        refine cr_get (v := va_rf (cR C20 a34 2)) dX1_examineVariable_54 fw_1_126 hT36 rfl ?_
        refine ag_aload dX1_examineVariable_57 rfl (va_rf_or _) ?_
        refine cr_stk (st' := [.ref a33, va_rf (cR C20 a34 2)]) (by rw [hr32]; rfl) ?_
        obtain ⟨hT37, h⟩ := h
        refine cr_get (v := va_rf (cR C20 a33 2)) dX1_examineVariable_59 fw_1_126 hT37 rfl ?_
        obtain ⟨a38, hr39, h⟩ := h
        refine cr_stk (st' := [va_rf (cR C20 a33 2), .ref a38]) (by rw [hr39]; rfl) ?_
        obtain ⟨hT43, h⟩ := h
        refine cr_callV (as := [va_rf (cR C20 a33 2)]) (rest := []) dX1_examineVariable_62 me_X8_keepBoth mi_X8_keepBoth lk_1_129 hT43 rfl rfl (Nat.le_of_ble_eq_true rfl) ?_
        refine cM.mono h ?_
        rintro v C40 ⟨rfl, hL42, h⟩
        have hT44 := cT.le (C := C20) hT23 hL42
        have hT45 := cT.le (C := C20) hT24 hL42
        have hT46 := cT.le (C := C20) hT25 hL42
        have hT47 := cT.le (C := C20) hT28 hL42
        have hT48 := cT.le (C := C20) hT36 hL42
        have hT49 := cT.le (C := C20) hT37 hL42
        have hT50 := cT.le (C := C20) hT43 hL42
        show cG _ _ _ _ _ _ [] _
        refine ag_aload_n dX1_examineVariable_65 rfl (va_rf_or _) ?_
        refine cr_stk (st' := [.ref a34]) (by rw [hr35]; rfl) ?_
        refine cr_get (v := va_rf (cR C40 a34 3)) dX1_examineVariable_66 fw_1_133 hT48 rfl ?_
        refine ag_aload dX1_examineVariable_69 rfl (va_rf_or _) ?_
        refine cr_stk (st' := [.ref a33, va_rf (cR C40 a34 3)]) (by rw [hr32]; rfl) ?_
        refine cr_get (v := va_rf (cR C40 a33 3)) dX1_examineVariable_71 fw_1_133 hT49 rfl ?_
        obtain ⟨a51, hr52, h⟩ := h
        refine cr_stk (st' := [va_rf (cR C40 a33 3), .ref a51]) (by rw [hr52]; rfl) ?_
        obtain ⟨hT56, h⟩ := h
        refine cr_callV (as := [va_rf (cR C40 a33 3)]) (rest := []) dX1_examineVariable_74 me_X8_keepBoth mi_X8_keepBoth lk_1_129 hT56 rfl rfl (Nat.le_of_ble_eq_true rfl) ?_
        refine cM.mono h ?_
        rintro v C53 ⟨rfl, hL55, h⟩
        have hT57 := cT.le (C := C40) hT44 hL55
        have hT58 := cT.le (C := C40) hT45 hL55
        have hT59 := cT.le (C := C40) hT46 hL55
        have hT60 := cT.le (C := C40) hT47 hL55
        have hT61 := cT.le (C := C40) hT48 hL55
        have hT62 := cT.le (C := C40) hT49 hL55
        have hT63 := cT.le (C := C40) hT50 hL55
        have hT64 := cT.le (C := C40) hT56 hL55
        show cG _ _ _ _ _ _ [] _
        refine ag_iconst (v := 1) dX1_examineVariable_77 rfl ?_
        exact ag_ret (v := some (.int 1)) dX1_examineVariable_78 ⟨_, rfl, rB_n (Or.inr rfl)⟩ ⟨_, rfl, _, rfl, h⟩ rfl
    · have h := h.2 hc12
      refine ag_aload_n dX1_examineVariable_16 rfl (Or.inr ⟨_, rfl⟩) ?_
      refine ag_aload_n dX1_examineVariable_17 rfl (va_rf_or _) ?_
      obtain ⟨hT68, h⟩ := h
      refine cr_callV (as := [va_rf p0]) (rest := []) dX1_examineVariable_18 me_X1_refuse mi_X1_refuse lk_1_118 hT68 rfl rfl (Nat.le_of_ble_eq_true rfl) ?_
      refine cM.mono h ?_
      rintro v C65 ⟨z66, rfl, hL67, h⟩
      have hT69 := cT.le (C := C) hT3 hL67
      have hT70 := cT.le (C := C) hT68 hL67
      show cG _ _ _ _ _ _ [.int z66] _
      obtain ⟨hb71, h⟩ := h
      exact ag_ret (v := some (.int z66)) dX1_examineVariable_21 ⟨_, rfl, rB_n hb71⟩ ⟨_, rfl, _, rfl, h⟩ rfl
theorem dX1_assignPlace_0 : decode cX1_assignPlace 0 = .ok (.aload_n 3, 1) := by decide +kernel
theorem dX1_assignPlace_1 : decode cX1_assignPlace 1 = .ok (.aload_n 2, 1) := by decide +kernel
theorem dX1_assignPlace_2 : decode cX1_assignPlace 2 = .ok (.iload_n 1, 1) := by decide +kernel
theorem dX1_assignPlace_3 : decode cX1_assignPlace 3 = .ok (.invokevirtual 136, 3) := by decide +kernel
theorem dX1_assignPlace_6 : decode cX1_assignPlace 6 = .ok (.iload_n 1, 1) := by decide +kernel
theorem dX1_assignPlace_7 : decode cX1_assignPlace 7 = .ok (.aload_n 2, 1) := by decide +kernel
theorem dX1_assignPlace_8 : decode cX1_assignPlace 8 = .ok (.invokevirtual 114, 3) := by decide +kernel
theorem dX1_assignPlace_11 : decode cX1_assignPlace 11 = .ok (.aload_n 3, 1) := by decide +kernel
theorem dX1_assignPlace_12 : decode cX1_assignPlace 12 = .ok (.getfield 126, 3) := by decide +kernel
theorem dX1_assignPlace_15 : decode cX1_assignPlace 15 = .ok (.iload_n 1, 1) := by decide +kernel
theorem dX1_assignPlace_16 : decode cX1_assignPlace 16 = .ok (.bipush 27, 2) := by decide +kernel
theorem dX1_assignPlace_18 : decode cX1_assignPlace 18 = .ok (.invokevirtual 47, 3) := by decide +kernel
theorem dX1_assignPlace_21 : decode cX1_assignPlace 21 = .ok (.aload_n 3, 1) := by decide +kernel
theorem dX1_assignPlace_22 : decode cX1_assignPlace 22 = .ok (.getfield 133, 3) := by decide +kernel
theorem dX1_assignPlace_25 : decode cX1_assignPlace 25 = .ok (.iload_n 1, 1) := by decide +kernel
theorem dX1_assignPlace_26 : decode cX1_assignPlace 26 = .ok (.iconst 4, 1) := by decide +kernel
theorem dX1_assignPlace_27 : decode cX1_assignPlace 27 = .ok (.invokevirtual 47, 3) := by decide +kernel
theorem dX1_assignPlace_30 : decode cX1_assignPlace 30 = .ok (.return_, 1) := by decide +kernel
set_option maxRecDepth 20000 in
set_option maxHeartbeats 4000000 in
theorem w_X1_assignPlace {c : cX} {d : Nat} {C : cS} {K : Option Value → cS → Prop} (t : Nat) (p0 : Int32) (p1 : Option Nat) (p2 : Option Nat) (h : ∃ a1 : Nat, p1 = some a1 ∧ (cT C a1 8 2 ∧ (cM c d eX8_says (.ref a1 :: [.int p0]) C (fun v C3 => ∃ z4 : Int32, v = some (.int z4) ∧ cle C C3 ∧ (∃ a8 : Nat, p2 = some a8 ∧ (cT C3 a8 2 4 ∧ (cM c d eX2_assign (.ref a8 :: [.int z4, .int p0, va_rf p1]) C3 (fun v C10 => v = none ∧ cle C3 C10 ∧ (∃ a16 : Nat, (cR C10 a8 2) = some a16 ∧ (cT C10 a16 8 2 ∧ (cM c d eX8_restrict (.ref a16 :: [.int p0, .int 27]) C10 (fun v C18 => v = none ∧ cle C10 C18 ∧ (∃ a25 : Nat, (cR C18 a8 3) = some a25 ∧ (cT C18 a25 8 2 ∧ (cM c d eX8_restrict (.ref a25 :: [.int p0, .int 4]) C18 (fun v C27 => v = none ∧ cle C18 C27 ∧ (K none C27))))))))))))))))) : cM c (d + 1) eX1_assignPlace [.ref t, .int p0, va_rf p1, va_rf p2] C K := by
  refine cM.of2 (lv := [some (.ref t), some (.int p0), some (va_rf p1), some (va_rf p2)]) (by decide) (by simp only [am_sl_i, am_sl_r, am_sl_l, am_sl_o, am_sl_n]; exact Nat.le_of_ble_eq_true rfl) (by simp only [am_en, am_sl_i, am_sl_r, am_sl_l, am_sl_o, am_sl_n]; rfl) ?_
  refine ag_aload_n dX1_assignPlace_0 rfl (va_rf_or _) ?_
  refine ag_aload_n dX1_assignPlace_1 rfl (va_rf_or _) ?_
  refine ag_iload_n dX1_assignPlace_2 rfl ?_
  obtain ⟨a1, hr2, h⟩ := h
  refine cr_stk (st' := [.int p0, .ref a1, va_rf p2]) (by rw [hr2]; rfl) ?_
  obtain ⟨hT6, h⟩ := h
  refine cr_callV (as := [.int p0]) (rest := [va_rf p2]) dX1_assignPlace_3 me_X8_says mi_X8_says lk_1_136 hT6 rfl rfl (by simp only [List.map_cons, List.map_nil, List.sum_cons, List.sum_nil, va_rf_cat, am_ci, am_cl, am_cr, am_cn]; decide) ?_
  refine cM.mono h ?_
  rintro v C3 ⟨z4, rfl, hL5, h⟩
  have hT7 := cT.le (C := C) hT6 hL5
  show cG _ _ _ _ _ _ [.int z4, va_rf p2] _
  refine ag_iload_n dX1_assignPlace_6 rfl ?_
  refine ag_aload_n dX1_assignPlace_7 rfl (va_rf_or _) ?_
  obtain ⟨a8, hr9, h⟩ := h
  refine cr_stk (st' := [va_rf p1, .int p0, .int z4, .ref a8]) (by rw [hr9]; rfl) ?_
  obtain ⟨hT13, h⟩ := h
  refine cr_callV (as := [.int z4, .int p0, va_rf p1]) (rest := []) dX1_assignPlace_8 me_X2_assign mi_X2_assign lk_1_114 hT13 rfl rfl (Nat.le_of_ble_eq_true rfl) ?_
  refine cM.mono h ?_
  rintro v C10 ⟨rfl, hL12, h⟩
  have hT14 := cT.le (C := C3) hT7 hL12
  have hT15 := cT.le (C := C3) hT13 hL12
  show cG _ _ _ _ _ _ [] _
  refine ag_aload_n dX1_assignPlace_11 rfl (va_rf_or _) ?_
  refine cr_stk (st' := [.ref a8]) (by rw [hr9]; rfl) ?_
  refine cr_get (v := va_rf (cR C10 a8 2)) dX1_assignPlace_12 fw_1_126 hT15 rfl ?_
  refine ag_iload_n dX1_assignPlace_15 rfl ?_
  refine ag_bipush (v := 27) dX1_assignPlace_16 (by decide) ?_
  obtain ⟨a16, hr17, h⟩ := h
  refine cr_stk (st' := [.int 27, .int p0, .ref a16]) (by rw [hr17]; rfl) ?_
  obtain ⟨hT21, h⟩ := h
  refine cr_callV (as := [.int p0, .int 27]) (rest := []) dX1_assignPlace_18 me_X8_restrict mi_X8_restrict lk_1_47 hT21 rfl rfl (Nat.le_of_ble_eq_true rfl) ?_
  refine cM.mono h ?_
  rintro v C18 ⟨rfl, hL20, h⟩
  have hT22 := cT.le (C := C10) hT14 hL20
  have hT23 := cT.le (C := C10) hT15 hL20
  have hT24 := cT.le (C := C10) hT21 hL20
  show cG _ _ _ _ _ _ [] _
  refine ag_aload_n dX1_assignPlace_21 rfl (va_rf_or _) ?_
  refine cr_stk (st' := [.ref a8]) (by rw [hr9]; rfl) ?_
  refine cr_get (v := va_rf (cR C18 a8 3)) dX1_assignPlace_22 fw_1_133 hT23 rfl ?_
  refine ag_iload_n dX1_assignPlace_25 rfl ?_
  refine ag_iconst (v := 4) dX1_assignPlace_26 rfl ?_
  obtain ⟨a25, hr26, h⟩ := h
  refine cr_stk (st' := [.int 4, .int p0, .ref a25]) (by rw [hr26]; rfl) ?_
  obtain ⟨hT30, h⟩ := h
  refine cr_callV (as := [.int p0, .int 4]) (rest := []) dX1_assignPlace_27 me_X8_restrict mi_X8_restrict lk_1_47 hT30 rfl rfl (Nat.le_of_ble_eq_true rfl) ?_
  refine cM.mono h ?_
  rintro v C27 ⟨rfl, hL29, h⟩
  have hT31 := cT.le (C := C18) hT22 hL29
  have hT32 := cT.le (C := C18) hT23 hL29
  have hT33 := cT.le (C := C18) hT24 hL29
  have hT34 := cT.le (C := C18) hT30 hL29
  show cG _ _ _ _ _ _ [] _
  exact ag_ret (v := none) dX1_assignPlace_30 rfl ⟨_, rfl, _, rfl, h⟩ rfl
theorem dX1_examineTest_0 : decode cX1_examineTest 0 = .ok (.aload_n 0, 1) := by decide +kernel
theorem dX1_examineTest_1 : decode cX1_examineTest 1 = .ok (.aload_n 1, 1) := by decide +kernel
theorem dX1_examineTest_2 : decode cX1_examineTest 2 = .ok (.getfield 140, 3) := by decide +kernel
theorem dX1_examineTest_5 : decode cX1_examineTest 5 = .ok (.aload_n 2, 1) := by decide +kernel
theorem dX1_examineTest_6 : decode cX1_examineTest 6 = .ok (.iload 4, 2) := by decide +kernel
theorem dX1_examineTest_8 : decode cX1_examineTest 8 = .ok (.invokevirtual 51, 3) := by decide +kernel
theorem dX1_examineTest_11 : decode cX1_examineTest 11 = .ok (.astore 5, 2) := by decide +kernel
theorem dX1_examineTest_13 : decode cX1_examineTest 13 = .ok (.aload 5, 2) := by decide +kernel
theorem dX1_examineTest_15 : decode cX1_examineTest 15 = .ok (.ifnonnull 5, 3) := by decide +kernel
theorem dX1_examineTest_18 : decode cX1_examineTest 18 = .ok (.iconst 0, 1) := by decide +kernel
theorem dX1_examineTest_19 : decode cX1_examineTest 19 = .ok (.ireturn, 1) := by decide +kernel
theorem dX1_examineTest_20 : decode cX1_examineTest 20 = .ok (.aload_n 1, 1) := by decide +kernel
theorem dX1_examineTest_21 : decode cX1_examineTest 21 = .ok (.getfield 74, 3) := by decide +kernel
theorem dX1_examineTest_24 : decode cX1_examineTest 24 = .ok (.invokestatic 144, 3) := by decide +kernel
theorem dX1_examineTest_27 : decode cX1_examineTest 27 = .ok (.istore 6, 2) := by decide +kernel
theorem dX1_examineTest_29 : decode cX1_examineTest 29 = .ok (.aload 5, 2) := by decide +kernel
theorem dX1_examineTest_31 : decode cX1_examineTest 31 = .ok (.getfield 147, 3) := by decide +kernel
theorem dX1_examineTest_34 : decode cX1_examineTest 34 = .ok (.iload 6, 2) := by decide +kernel
theorem dX1_examineTest_36 : decode cX1_examineTest 36 = .ok (.iand, 1) := by decide +kernel
theorem dX1_examineTest_37 : decode cX1_examineTest 37 = .ok (.ifCond .eq 7, 3) := by decide +kernel
theorem dX1_examineTest_40 : decode cX1_examineTest 40 = .ok (.iconst 2, 1) := by decide +kernel
theorem dX1_examineTest_41 : decode cX1_examineTest 41 = .ok (.goto 4, 3) := by decide +kernel
theorem dX1_examineTest_44 : decode cX1_examineTest 44 = .ok (.iconst 0, 1) := by decide +kernel
theorem dX1_examineTest_45 : decode cX1_examineTest 45 = .ok (.istore 7, 2) := by decide +kernel
theorem dX1_examineTest_47 : decode cX1_examineTest 47 = .ok (.aload 5, 2) := by decide +kernel
theorem dX1_examineTest_49 : decode cX1_examineTest 49 = .ok (.getfield 147, 3) := by decide +kernel
theorem dX1_examineTest_52 : decode cX1_examineTest 52 = .ok (.iload 6, 2) := by decide +kernel
theorem dX1_examineTest_54 : decode cX1_examineTest 54 = .ok (.iconst (-1), 1) := by decide +kernel
theorem dX1_examineTest_55 : decode cX1_examineTest 55 = .ok (.ixor, 1) := by decide +kernel
theorem dX1_examineTest_56 : decode cX1_examineTest 56 = .ok (.iand, 1) := by decide +kernel
theorem dX1_examineTest_57 : decode cX1_examineTest 57 = .ok (.ifCond .eq 6, 3) := by decide +kernel
theorem dX1_examineTest_60 : decode cX1_examineTest 60 = .ok (.iinc 7 4, 3) := by decide +kernel
theorem dX1_examineTest_63 : decode cX1_examineTest 63 = .ok (.aload_n 3, 1) := by decide +kernel
theorem dX1_examineTest_64 : decode cX1_examineTest 64 = .ok (.iload 7, 2) := by decide +kernel
theorem dX1_examineTest_66 : decode cX1_examineTest 66 = .ok (.iconst (-1), 1) := by decide +kernel
theorem dX1_examineTest_67 : decode cX1_examineTest 67 = .ok (.aload_n 2, 1) := by decide +kernel
theorem dX1_examineTest_68 : decode cX1_examineTest 68 = .ok (.invokevirtual 114, 3) := by decide +kernel
theorem dX1_examineTest_71 : decode cX1_examineTest 71 = .ok (.aload 5, 2) := by decide +kernel
theorem dX1_examineTest_73 : decode cX1_examineTest 73 = .ok (.getfield 150, 3) := by decide +kernel
theorem dX1_examineTest_76 : decode cX1_examineTest 76 = .ok (.iconst (-1), 1) := by decide +kernel
theorem dX1_examineTest_77 : decode cX1_examineTest 77 = .ok (.if_icmp .eq 36, 3) := by decide +kernel
theorem dX1_examineTest_80 : decode cX1_examineTest 80 = .ok (.aload_n 3, 1) := by decide +kernel
theorem dX1_examineTest_81 : decode cX1_examineTest 81 = .ok (.getfield 126, 3) := by decide +kernel
theorem dX1_examineTest_84 : decode cX1_examineTest 84 = .ok (.aload 5, 2) := by decide +kernel
theorem dX1_examineTest_86 : decode cX1_examineTest 86 = .ok (.getfield 150, 3) := by decide +kernel
theorem dX1_examineTest_89 : decode cX1_examineTest 89 = .ok (.iload 6, 2) := by decide +kernel
theorem dX1_examineTest_91 : decode cX1_examineTest 91 = .ok (.invokevirtual 47, 3) := by decide +kernel
theorem dX1_examineTest_94 : decode cX1_examineTest 94 = .ok (.aload_n 3, 1) := by decide +kernel
theorem dX1_examineTest_95 : decode cX1_examineTest 95 = .ok (.getfield 133, 3) := by decide +kernel
theorem dX1_examineTest_98 : decode cX1_examineTest 98 = .ok (.aload 5, 2) := by decide +kernel
theorem dX1_examineTest_100 : decode cX1_examineTest 100 = .ok (.getfield 150, 3) := by decide +kernel
theorem dX1_examineTest_103 : decode cX1_examineTest 103 = .ok (.bipush 31, 2) := by decide +kernel
theorem dX1_examineTest_105 : decode cX1_examineTest 105 = .ok (.iload 6, 2) := by decide +kernel
theorem dX1_examineTest_107 : decode cX1_examineTest 107 = .ok (.iconst (-1), 1) := by decide +kernel
theorem dX1_examineTest_108 : decode cX1_examineTest 108 = .ok (.ixor, 1) := by decide +kernel
theorem dX1_examineTest_109 : decode cX1_examineTest 109 = .ok (.iand, 1) := by decide +kernel
theorem dX1_examineTest_110 : decode cX1_examineTest 110 = .ok (.invokevirtual 47, 3) := by decide +kernel
theorem dX1_examineTest_113 : decode cX1_examineTest 113 = .ok (.iconst 1, 1) := by decide +kernel
theorem dX1_examineTest_114 : decode cX1_examineTest 114 = .ok (.ireturn, 1) := by decide +kernel
set_option maxRecDepth 20000 in
set_option maxHeartbeats 4000000 in
theorem w_X1_examineTest {c : cX} {d : Nat} {C : cS} {K : Option Value → cS → Prop} (t : Nat) (p0 : Option Nat) (p1 : Option Nat) (p2 : Option Nat) (p3 : Int32) (h : ∃ a1 : Nat, p0 = some a1 ∧ (cT C a1 5 7 ∧ (cT C t 1 7 ∧ (cM c d eX1_examine (.ref t :: [va_rf (cR C a1 4), va_rf p1, .int p3]) C (fun v C4 => ∃ z5 : Option Nat, v = some (va_rf z5) ∧ cle C C4 ∧ ((z5 = none → (K (some (.int 0)) C4)) ∧ (∀ a11 : Nat, z5 = some a11 → (cM c d eX9_testedKinds [.int (cI C4 a1 0)] C4 (fun v C12 => ∃ z13 : Int32, v = some (.int z13) ∧ cle C4 C12 ∧ (cT C12 a11 2 4 ∧ ((((cI C12 a11 0) &&& z13) = 0 → (cG c eX1_examineTest (d + 1) (cQ K) 45 [none, none, some (va_rf p1), some (va_rf p2), none, some (va_rf z5), some (.int z13), none] [.int 0] C12)) ∧ (¬ ((cI C12 a11 0) &&& z13) = 0 → (cG c eX1_examineTest (d + 1) (cQ K) 45 [none, none, some (va_rf p1), some (va_rf p2), none, some (va_rf z5), some (.int z13), none] [.int 2] C12))))))))))))) : cM c (d + 1) eX1_examineTest [.ref t, va_rf p0, va_rf p1, va_rf p2, .int p3] C K := by
  refine cM.of2 (lv := [some (.ref t), some (va_rf p0), some (va_rf p1), some (va_rf p2), some (.int p3), none, none, none]) (by decide) (by simp only [am_sl_i, am_sl_r, am_sl_l, am_sl_o, am_sl_n]; exact Nat.le_of_ble_eq_true rfl) (by simp only [am_en, am_sl_i, am_sl_r, am_sl_l, am_sl_o, am_sl_n]; rfl) ?_
  refine ag_aload_n dX1_examineTest_0 rfl (Or.inr ⟨_, rfl⟩) ?_
  refine ag_aload_n dX1_examineTest_1 rfl (va_rf_or _) ?_
  obtain ⟨a1, hr2, h⟩ := h
  refine cr_stk (st' := [.ref a1, .ref t]) (by rw [hr2]; rfl) ?_
  obtain ⟨hT3, h⟩ := h
  refine cr_get (v := va_rf (cR C a1 4)) dX1_examineTest_2 fw_1_140 hT3 rfl ?_
  refine ag_aload_n dX1_examineTest_5 rfl (va_rf_or _) ?_
  refine ag_iload dX1_examineTest_6 rfl ?_
  obtain ⟨hT7, h⟩ := h
  refine cr_callV (as := [va_rf (cR C a1 4), va_rf p1, .int p3]) (rest := []) dX1_examineTest_8 me_X1_examine mi_X1_examine lk_1_51 hT7 rfl rfl (Nat.le_of_ble_eq_true rfl) ?_
  refine cM.mono h ?_
  rintro v C4 ⟨z5, rfl, hL6, h⟩
  have hT8 := cT.le (C := C) hT3 hL6
  have hT9 := cT.le (C := C) hT7 hL6
  show cG _ _ _ _ _ _ [va_rf z5] _
  refine ag_astore (lv2 := [some (.ref t), some (va_rf p0), some (va_rf p1), some (va_rf p2), some (.int p3), some (va_rf z5), none, none]) dX1_examineTest_11 (Nat.le_of_ble_eq_true rfl) rfl (va_rf_or _) ?_
  refine ag_aload dX1_examineTest_13 rfl (va_rf_or _) ?_
  refine cr_ifnonnull (tgt := 20) dX1_examineTest_15 rfl (fun a11 hr10 => ?_) (fun hr10 => ?_)
  · have h := h.2 a11 hr10
    refine ag_aload_n dX1_examineTest_20 rfl (va_rf_or _) ?_
    refine cr_stk (st' := [.ref a1]) (by rw [hr2]; rfl) ?_
    refine cr_get (v := .int (cI C4 a1 0)) dX1_examineTest_21 fw_1_74 hT8 rfl ?_
    refine cr_callSN (as := [.int (cI C4 a1 0)]) (rest := []) dX1_examineTest_24 me_X9_testedKinds ms_X9_testedKinds ln_1_144 rfl rfl (Nat.le_of_ble_eq_true rfl) ?_
    refine cM.mono h ?_
    rintro v C12 ⟨z13, rfl, hL14, h⟩
    have hT15 := cT.le (C := C4) hT8 hL14
    have hT16 := cT.le (C := C4) hT9 hL14
    show cG _ _ _ _ _ _ [.int z13] _
    refine ag_istore (lv2 := [some (.ref t), some (va_rf p0), some (va_rf p1), some (va_rf p2), some (.int p3), some (va_rf z5), some (.int z13), none]) dX1_examineTest_27 (Nat.le_of_ble_eq_true rfl) (by simp [am_st1, am_kill, va_rf_cat] <;> rfl) ?_
    refine ag_aload dX1_examineTest_29 rfl (va_rf_or _) ?_
    refine cr_stk (st' := [.ref a11]) (by rw [hr10]; rfl) ?_
    obtain ⟨hT17, h⟩ := h
    refine cr_get (v := .int (cI C12 a11 0)) dX1_examineTest_31 fw_1_147 hT17 rfl ?_
    refine ag_iload dX1_examineTest_34 rfl ?_
    refine ag_iand dX1_examineTest_36 rfl ?_
    refine ag_if_eq (tgt := 44) dX1_examineTest_37 rfl (fun hc18 => ?_) (fun hc18 => ?_)
    · have h := h.1 hc18
      refine ag_iconst (v := 0) dX1_examineTest_44 rfl ?_
      refine ag_drop 0 ?_
      refine ag_drop 1 ?_
      refine ag_drop 4 ?_
      exact h
    · have h := h.2 hc18
      refine ag_iconst (v := 2) dX1_examineTest_40 rfl ?_
      refine ag_goto (tgt := 45) dX1_examineTest_41 rfl ?_
      refine ag_drop 0 ?_
      refine ag_drop 1 ?_
      refine ag_drop 4 ?_
      exact h
  · have h := h.1 hr10
    refine ag_iconst (v := 0) dX1_examineTest_18 rfl ?_
    exact ag_ret (v := some (.int 0)) dX1_examineTest_19 ⟨_, rfl, rB_n (Or.inl rfl)⟩ ⟨_, rfl, _, rfl, h⟩ rfl
set_option maxRecDepth 20000 in
set_option maxHeartbeats 4000000 in
theorem w_X1_examineTest_45 {c : cX} {d : Nat} {C : cS} {K : Option Value → cS → Prop} (v2 : Option Nat) (v3 : Option Nat) (v5 : Option Nat) (v6 : Int32) (s0 : Int32) (h : ∃ a1 : Nat, v5 = some a1 ∧ (cT C a1 2 4 ∧ ((((cI C a1 0) &&& (v6 ^^^ (-1))) = 0 → (cG c eX1_examineTest (d + 1) (cQ K) 63 [none, none, some (va_rf v2), some (va_rf v3), none, some (va_rf v5), some (.int v6), some (.int s0)] [] C)) ∧ (¬ ((cI C a1 0) &&& (v6 ^^^ (-1))) = 0 → (cG c eX1_examineTest (d + 1) (cQ K) 63 [none, none, some (va_rf v2), some (va_rf v3), none, some (va_rf v5), some (.int v6), some (.int (s0 + 4))] [] C))))) : cG c eX1_examineTest (d + 1) (cQ K) 45 [none, none, some (va_rf v2), some (va_rf v3), none, some (va_rf v5), some (.int v6), none] [.int s0] C := by
  refine ag_istore (lv2 := [none, none, some (va_rf v2), some (va_rf v3), none, some (va_rf v5), some (.int v6), some (.int s0)]) dX1_examineTest_45 (Nat.le_of_ble_eq_true rfl) rfl ?_
  refine ag_aload dX1_examineTest_47 rfl (va_rf_or _) ?_
  obtain ⟨a1, hr2, h⟩ := h
  refine cr_stk (st' := [.ref a1]) (by rw [hr2]; rfl) ?_
  obtain ⟨hT3, h⟩ := h
  refine cr_get (v := .int (cI C a1 0)) dX1_examineTest_49 fw_1_147 hT3 rfl ?_
  refine ag_iload dX1_examineTest_52 rfl ?_
  refine ag_iconst (v := (-1)) dX1_examineTest_54 rfl ?_
  refine ag_ixor dX1_examineTest_55 rfl ?_
  refine ag_iand dX1_examineTest_56 rfl ?_
  refine ag_if_eq (tgt := 63) dX1_examineTest_57 rfl (fun hc4 => ?_) (fun hc4 => ?_)
  · have h := h.1 hc4
    exact h
  · have h := h.2 hc4
    refine ag_iinc (v2 := (s0 + 4)) (lv2 := [none, none, some (va_rf v2), some (va_rf v3), none, some (va_rf v5), some (.int v6), some (.int (s0 + 4))]) dX1_examineTest_60 rfl rfl rfl ?_
    exact h
set_option maxRecDepth 20000 in
set_option maxHeartbeats 4000000 in
theorem w_X1_examineTest_63 {c : cX} {d : Nat} {C : cS} {K : Option Value → cS → Prop} (v2 : Option Nat) (v3 : Option Nat) (v5 : Option Nat) (v6 : Int32) (v7 : Int32) (h : ∃ a1 : Nat, v3 = some a1 ∧ (cT C a1 2 4 ∧ (cM c d eX2_assign (.ref a1 :: [.int v7, .int (-1), va_rf v2]) C (fun v C3 => v = none ∧ cle C C3 ∧ (∃ a8 : Nat, v5 = some a8 ∧ (cT C3 a8 2 4 ∧ (((cI C3 a8 1) = (-1) → (K (some (.int 1)) C3)) ∧ (¬ (cI C3 a8 1) = (-1) → (∃ a12 : Nat, (cR C3 a1 2) = some a12 ∧ (cT C3 a12 8 2 ∧ (cM c d eX8_restrict (.ref a12 :: [.int (cI C3 a8 1), .int v6]) C3 (fun v C14 => v = none ∧ cle C3 C14 ∧ (∃ a21 : Nat, (cR C14 a1 3) = some a21 ∧ (cT C14 a21 8 2 ∧ (cM c d eX8_restrict (.ref a21 :: [.int (cI C14 a8 1), .int (31 &&& (v6 ^^^ (-1)))]) C14 (fun v C23 => v = none ∧ cle C14 C23 ∧ (K (some (.int 1)) C23))))))))))))))))) : cG c eX1_examineTest (d + 1) (cQ K) 63 [none, none, some (va_rf v2), some (va_rf v3), none, some (va_rf v5), some (.int v6), some (.int v7)] [] C := by
  refine ag_aload_n dX1_examineTest_63 rfl (va_rf_or _) ?_
  refine ag_iload dX1_examineTest_64 rfl ?_
  refine ag_iconst (v := (-1)) dX1_examineTest_66 rfl ?_
  refine ag_aload_n dX1_examineTest_67 rfl (va_rf_or _) ?_
  obtain ⟨a1, hr2, h⟩ := h
  refine cr_stk (st' := [va_rf v2, .int (-1), .int v7, .ref a1]) (by rw [hr2]; rfl) ?_
  obtain ⟨hT6, h⟩ := h
  refine cr_callV (as := [.int v7, .int (-1), va_rf v2]) (rest := []) dX1_examineTest_68 me_X2_assign mi_X2_assign lk_1_114 hT6 rfl rfl (Nat.le_of_ble_eq_true rfl) ?_
  refine cM.mono h ?_
  rintro v C3 ⟨rfl, hL5, h⟩
  have hT7 := cT.le (C := C) hT6 hL5
  show cG _ _ _ _ _ _ [] _
  refine ag_aload dX1_examineTest_71 rfl (va_rf_or _) ?_
  obtain ⟨a8, hr9, h⟩ := h
  refine cr_stk (st' := [.ref a8]) (by rw [hr9]; rfl) ?_
  obtain ⟨hT10, h⟩ := h
  refine cr_get (v := .int (cI C3 a8 1)) dX1_examineTest_73 fw_1_150 hT10 rfl ?_
  refine ag_iconst (v := (-1)) dX1_examineTest_76 rfl ?_
  refine ag_icmp_eq (tgt := 113) dX1_examineTest_77 rfl (fun hc11 => ?_) (fun hc11 => ?_)
  · have h := h.1 hc11
    refine ag_iconst (v := 1) dX1_examineTest_113 rfl ?_
    exact ag_ret (v := some (.int 1)) dX1_examineTest_114 ⟨_, rfl, rB_n (Or.inr rfl)⟩ ⟨_, rfl, _, rfl, h⟩ rfl
  · have h := h.2 hc11
    refine ag_aload_n dX1_examineTest_80 rfl (va_rf_or _) ?_
    refine cr_stk (st' := [.ref a1]) (by rw [hr2]; rfl) ?_
    refine cr_get (v := va_rf (cR C3 a1 2)) dX1_examineTest_81 fw_1_126 hT7 rfl ?_
    refine ag_aload dX1_examineTest_84 rfl (va_rf_or _) ?_
    refine cr_stk (st' := [.ref a8, va_rf (cR C3 a1 2)]) (by rw [hr9]; rfl) ?_
    refine cr_get (v := .int (cI C3 a8 1)) dX1_examineTest_86 fw_1_150 hT10 rfl ?_
    refine ag_iload dX1_examineTest_89 rfl ?_
    obtain ⟨a12, hr13, h⟩ := h
    refine cr_stk (st' := [.int v6, .int (cI C3 a8 1), .ref a12]) (by rw [hr13]; rfl) ?_
    obtain ⟨hT17, h⟩ := h
    refine cr_callV (as := [.int (cI C3 a8 1), .int v6]) (rest := []) dX1_examineTest_91 me_X8_restrict mi_X8_restrict lk_1_47 hT17 rfl rfl (Nat.le_of_ble_eq_true rfl) ?_
    refine cM.mono h ?_
    rintro v C14 ⟨rfl, hL16, h⟩
    have hT18 := cT.le (C := C3) hT7 hL16
    have hT19 := cT.le (C := C3) hT10 hL16
    have hT20 := cT.le (C := C3) hT17 hL16
    show cG _ _ _ _ _ _ [] _
    refine ag_aload_n dX1_examineTest_94 rfl (va_rf_or _) ?_
    refine cr_stk (st' := [.ref a1]) (by rw [hr2]; rfl) ?_
    refine cr_get (v := va_rf (cR C14 a1 3)) dX1_examineTest_95 fw_1_133 hT18 rfl ?_
    refine ag_aload dX1_examineTest_98 rfl (va_rf_or _) ?_
    refine cr_stk (st' := [.ref a8, va_rf (cR C14 a1 3)]) (by rw [hr9]; rfl) ?_
    refine cr_get (v := .int (cI C14 a8 1)) dX1_examineTest_100 fw_1_150 hT19 rfl ?_
    refine ag_bipush (v := 31) dX1_examineTest_103 (by decide) ?_
    refine ag_iload dX1_examineTest_105 rfl ?_
    refine ag_iconst (v := (-1)) dX1_examineTest_107 rfl ?_
    refine ag_ixor dX1_examineTest_108 rfl ?_
    refine ag_iand dX1_examineTest_109 rfl ?_
    obtain ⟨a21, hr22, h⟩ := h
    refine cr_stk (st' := [.int (31 &&& (v6 ^^^ (-1))), .int (cI C14 a8 1), .ref a21]) (by rw [hr22]; rfl) ?_
    obtain ⟨hT26, h⟩ := h
    refine cr_callV (as := [.int (cI C14 a8 1), .int (31 &&& (v6 ^^^ (-1)))]) (rest := []) dX1_examineTest_110 me_X8_restrict mi_X8_restrict lk_1_47 hT26 rfl rfl (Nat.le_of_ble_eq_true rfl) ?_
    refine cM.mono h ?_
    rintro v C23 ⟨rfl, hL25, h⟩
    have hT27 := cT.le (C := C14) hT18 hL25
    have hT28 := cT.le (C := C14) hT19 hL25
    have hT29 := cT.le (C := C14) hT20 hL25
    have hT30 := cT.le (C := C14) hT26 hL25
    show cG _ _ _ _ _ _ [] _
    refine ag_iconst (v := 1) dX1_examineTest_113 rfl ?_
    exact ag_ret (v := some (.int 1)) dX1_examineTest_114 ⟨_, rfl, rB_n (Or.inr rfl)⟩ ⟨_, rfl, _, rfl, h⟩ rfl
theorem dX1_examineNot_0 : decode cX1_examineNot 0 = .ok (.aload_n 0, 1) := by decide +kernel
theorem dX1_examineNot_1 : decode cX1_examineNot 1 = .ok (.aload_n 1, 1) := by decide +kernel
theorem dX1_examineNot_2 : decode cX1_examineNot 2 = .ok (.getfield 140, 3) := by decide +kernel
theorem dX1_examineNot_5 : decode cX1_examineNot 5 = .ok (.aload_n 2, 1) := by decide +kernel
theorem dX1_examineNot_6 : decode cX1_examineNot 6 = .ok (.iload 4, 2) := by decide +kernel
theorem dX1_examineNot_8 : decode cX1_examineNot 8 = .ok (.invokevirtual 51, 3) := by decide +kernel
theorem dX1_examineNot_11 : decode cX1_examineNot 11 = .ok (.astore 5, 2) := by decide +kernel
theorem dX1_examineNot_13 : decode cX1_examineNot 13 = .ok (.aload 5, 2) := by decide +kernel
theorem dX1_examineNot_15 : decode cX1_examineNot 15 = .ok (.ifnonnull 5, 3) := by decide +kernel
theorem dX1_examineNot_18 : decode cX1_examineNot 18 = .ok (.iconst 0, 1) := by decide +kernel
theorem dX1_examineNot_19 : decode cX1_examineNot 19 = .ok (.ireturn, 1) := by decide +kernel
theorem dX1_examineNot_20 : decode cX1_examineNot 20 = .ok (.aload_n 3, 1) := by decide +kernel
theorem dX1_examineNot_21 : decode cX1_examineNot 21 = .ok (.aload 5, 2) := by decide +kernel
theorem dX1_examineNot_23 : decode cX1_examineNot 23 = .ok (.getfield 133, 3) := by decide +kernel
theorem dX1_examineNot_26 : decode cX1_examineNot 26 = .ok (.getfield 60, 3) := by decide +kernel
theorem dX1_examineNot_29 : decode cX1_examineNot 29 = .ok (.ifCond .eq 7, 3) := by decide +kernel
theorem dX1_examineNot_32 : decode cX1_examineNot 32 = .ok (.iconst 0, 1) := by decide +kernel
theorem dX1_examineNot_33 : decode cX1_examineNot 33 = .ok (.goto 4, 3) := by decide +kernel
theorem dX1_examineNot_36 : decode cX1_examineNot 36 = .ok (.iconst 2, 1) := by decide +kernel
theorem dX1_examineNot_37 : decode cX1_examineNot 37 = .ok (.aload 5, 2) := by decide +kernel
theorem dX1_examineNot_39 : decode cX1_examineNot 39 = .ok (.getfield 126, 3) := by decide +kernel
theorem dX1_examineNot_42 : decode cX1_examineNot 42 = .ok (.getfield 60, 3) := by decide +kernel
theorem dX1_examineNot_45 : decode cX1_examineNot 45 = .ok (.ifCond .eq 7, 3) := by decide +kernel
theorem dX1_examineNot_48 : decode cX1_examineNot 48 = .ok (.iconst 0, 1) := by decide +kernel
theorem dX1_examineNot_49 : decode cX1_examineNot 49 = .ok (.goto 4, 3) := by decide +kernel
theorem dX1_examineNot_52 : decode cX1_examineNot 52 = .ok (.iconst 4, 1) := by decide +kernel
theorem dX1_examineNot_53 : decode cX1_examineNot 53 = .ok (.iadd, 1) := by decide +kernel
theorem dX1_examineNot_54 : decode cX1_examineNot 54 = .ok (.putfield 147, 3) := by decide +kernel
theorem dX1_examineNot_57 : decode cX1_examineNot 57 = .ok (.aload_n 3, 1) := by decide +kernel
theorem dX1_examineNot_58 : decode cX1_examineNot 58 = .ok (.iconst (-1), 1) := by decide +kernel
theorem dX1_examineNot_59 : decode cX1_examineNot 59 = .ok (.putfield 150, 3) := by decide +kernel
theorem dX1_examineNot_62 : decode cX1_examineNot 62 = .ok (.aload_n 3, 1) := by decide +kernel
theorem dX1_examineNot_63 : decode cX1_examineNot 63 = .ok (.getfield 126, 3) := by decide +kernel
theorem dX1_examineNot_66 : decode cX1_examineNot 66 = .ok (.aload 5, 2) := by decide +kernel
theorem dX1_examineNot_68 : decode cX1_examineNot 68 = .ok (.getfield 133, 3) := by decide +kernel
theorem dX1_examineNot_71 : decode cX1_examineNot 71 = .ok (.invokevirtual 153, 3) := by decide +kernel
theorem dX1_examineNot_74 : decode cX1_examineNot 74 = .ok (.aload_n 3, 1) := by decide +kernel
theorem dX1_examineNot_75 : decode cX1_examineNot 75 = .ok (.getfield 133, 3) := by decide +kernel
theorem dX1_examineNot_78 : decode cX1_examineNot 78 = .ok (.aload 5, 2) := by decide +kernel
theorem dX1_examineNot_80 : decode cX1_examineNot 80 = .ok (.getfield 126, 3) := by decide +kernel
theorem dX1_examineNot_83 : decode cX1_examineNot 83 = .ok (.invokevirtual 153, 3) := by decide +kernel
theorem dX1_examineNot_86 : decode cX1_examineNot 86 = .ok (.iconst 1, 1) := by decide +kernel
theorem dX1_examineNot_87 : decode cX1_examineNot 87 = .ok (.ireturn, 1) := by decide +kernel
set_option maxRecDepth 20000 in
set_option maxHeartbeats 4000000 in
theorem w_X1_examineNot {c : cX} {d : Nat} {C : cS} {K : Option Value → cS → Prop} (t : Nat) (p0 : Option Nat) (p1 : Option Nat) (p2 : Option Nat) (p3 : Int32) (h : ∃ a1 : Nat, p0 = some a1 ∧ (cT C a1 5 7 ∧ (cT C t 1 7 ∧ (cM c d eX1_examine (.ref t :: [va_rf (cR C a1 4), va_rf p1, .int p3]) C (fun v C4 => ∃ z5 : Option Nat, v = some (va_rf z5) ∧ cle C C4 ∧ ((z5 = none → (K (some (.int 0)) C4)) ∧ (∀ a11 : Nat, z5 = some a11 → (cT C4 a11 2 4 ∧ (∃ a13 : Nat, (cR C4 a11 3) = some a13 ∧ (cT C4 a13 8 2 ∧ (((cI C4 a13 1) = 0 → (∃ a17 : Nat, (cR C4 a11 2) = some a17 ∧ (cT C4 a17 8 2 ∧ (((cI C4 a17 1) = 0 → (cG c eX1_examineNot (d + 1) (cQ K) 53 [none, none, none, some (va_rf p2), none, some (va_rf z5)] [.int 4, .int 2, va_rf p2] C4)) ∧ (¬ (cI C4 a17 1) = 0 → (cG c eX1_examineNot (d + 1) (cQ K) 53 [none, none, none, some (va_rf p2), none, some (va_rf z5)] [.int 0, .int 2, va_rf p2] C4)))))) ∧ (¬ (cI C4 a13 1) = 0 → (∃ a21 : Nat, (cR C4 a11 2) = some a21 ∧ (cT C4 a21 8 2 ∧ (((cI C4 a21 1) = 0 → (cG c eX1_examineNot (d + 1) (cQ K) 53 [none, none, none, some (va_rf p2), none, some (va_rf z5)] [.int 4, .int 0, va_rf p2] C4)) ∧ (¬ (cI C4 a21 1) = 0 → (cG c eX1_examineNot (d + 1) (cQ K) 53 [none, none, none, some (va_rf p2), none, some (va_rf z5)] [.int 0, .int 0, va_rf p2] C4))))))))))))))))) : cM c (d + 1) eX1_examineNot [.ref t, va_rf p0, va_rf p1, va_rf p2, .int p3] C K := by
  refine cM.of2 (lv := [some (.ref t), some (va_rf p0), some (va_rf p1), some (va_rf p2), some (.int p3), none]) (by decide) (by simp only [am_sl_i, am_sl_r, am_sl_l, am_sl_o, am_sl_n]; exact Nat.le_of_ble_eq_true rfl) (by simp only [am_en, am_sl_i, am_sl_r, am_sl_l, am_sl_o, am_sl_n]; rfl) ?_
  refine ag_aload_n dX1_examineNot_0 rfl (Or.inr ⟨_, rfl⟩) ?_
  refine ag_aload_n dX1_examineNot_1 rfl (va_rf_or _) ?_
  obtain ⟨a1, hr2, h⟩ := h
  refine cr_stk (st' := [.ref a1, .ref t]) (by rw [hr2]; rfl) ?_
  obtain ⟨hT3, h⟩ := h
  refine cr_get (v := va_rf (cR C a1 4)) dX1_examineNot_2 fw_1_140 hT3 rfl ?_
  refine ag_aload_n dX1_examineNot_5 rfl (va_rf_or _) ?_
  refine ag_iload dX1_examineNot_6 rfl ?_
  obtain ⟨hT7, h⟩ := h
  refine cr_callV (as := [va_rf (cR C a1 4), va_rf p1, .int p3]) (rest := []) dX1_examineNot_8 me_X1_examine mi_X1_examine lk_1_51 hT7 rfl rfl (Nat.le_of_ble_eq_true rfl) ?_
  refine cM.mono h ?_
  rintro v C4 ⟨z5, rfl, hL6, h⟩
  have hT8 := cT.le (C := C) hT3 hL6
  have hT9 := cT.le (C := C) hT7 hL6
  show cG _ _ _ _ _ _ [va_rf z5] _
  refine ag_astore (lv2 := [some (.ref t), some (va_rf p0), some (va_rf p1), some (va_rf p2), some (.int p3), some (va_rf z5)]) dX1_examineNot_11 (Nat.le_of_ble_eq_true rfl) rfl (va_rf_or _) ?_
  refine ag_aload dX1_examineNot_13 rfl (va_rf_or _) ?_
  refine cr_ifnonnull (tgt := 20) dX1_examineNot_15 rfl (fun a11 hr10 => ?_) (fun hr10 => ?_)
  · have h := h.2 a11 hr10
    refine ag_aload_n dX1_examineNot_20 rfl (va_rf_or _) ?_
    refine ag_aload dX1_examineNot_21 rfl (va_rf_or _) ?_
    refine cr_stk (st' := [.ref a11, va_rf p2]) (by rw [hr10]; rfl) ?_
    obtain ⟨hT12, h⟩ := h
    refine cr_get (v := va_rf (cR C4 a11 3)) dX1_examineNot_23 fw_1_133 hT12 rfl ?_
    obtain ⟨a13, hr14, h⟩ := h
    refine cr_stk (st' := [.ref a13, va_rf p2]) (by rw [hr14]; rfl) ?_
    obtain ⟨hT15, h⟩ := h
    refine cr_get (v := .int (cI C4 a13 1)) dX1_examineNot_26 fw_1_60 hT15 rfl ?_
    refine ag_if_eq (tgt := 36) dX1_examineNot_29 rfl (fun hc16 => ?_) (fun hc16 => ?_)
    · have h := h.1 hc16
      refine ag_iconst (v := 2) dX1_examineNot_36 rfl ?_
      refine ag_aload dX1_examineNot_37 rfl (va_rf_or _) ?_
      refine cr_stk (st' := [.ref a11, .int 2, va_rf p2]) (by rw [hr10]; rfl) ?_
      refine cr_get (v := va_rf (cR C4 a11 2)) dX1_examineNot_39 fw_1_126 hT12 rfl ?_
      obtain ⟨a17, hr18, h⟩ := h
      refine cr_stk (st' := [.ref a17, .int 2, va_rf p2]) (by rw [hr18]; rfl) ?_
      obtain ⟨hT19, h⟩ := h
      refine cr_get (v := .int (cI C4 a17 1)) dX1_examineNot_42 fw_1_60 hT19 rfl ?_
      refine ag_if_eq (tgt := 52) dX1_examineNot_45 rfl (fun hc20 => ?_) (fun hc20 => ?_)
      · have h := h.1 hc20
        refine ag_iconst (v := 4) dX1_examineNot_52 rfl ?_
        refine ag_drop 0 ?_
        refine ag_drop 1 ?_
        refine ag_drop 2 ?_
        refine ag_drop 4 ?_
        exact h
      · have h := h.2 hc20
        refine ag_iconst (v := 0) dX1_examineNot_48 rfl ?_
        refine ag_goto (tgt := 53) dX1_examineNot_49 rfl ?_
        refine ag_drop 0 ?_
        refine ag_drop 1 ?_
        refine ag_drop 2 ?_
        refine ag_drop 4 ?_
        exact h
    · have h := h.2 hc16
      refine ag_iconst (v := 0) dX1_examineNot_32 rfl ?_
      refine ag_goto (tgt := 37) dX1_examineNot_33 rfl ?_
      refine ag_aload dX1_examineNot_37 rfl (va_rf_or _) ?_
      refine cr_stk (st' := [.ref a11, .int 0, va_rf p2]) (by rw [hr10]; rfl) ?_
      refine cr_get (v := va_rf (cR C4 a11 2)) dX1_examineNot_39 fw_1_126 hT12 rfl ?_
      obtain ⟨a21, hr22, h⟩ := h
      refine cr_stk (st' := [.ref a21, .int 0, va_rf p2]) (by rw [hr22]; rfl) ?_
      obtain ⟨hT23, h⟩ := h
      refine cr_get (v := .int (cI C4 a21 1)) dX1_examineNot_42 fw_1_60 hT23 rfl ?_
      refine ag_if_eq (tgt := 52) dX1_examineNot_45 rfl (fun hc24 => ?_) (fun hc24 => ?_)
      · have h := h.1 hc24
        refine ag_iconst (v := 4) dX1_examineNot_52 rfl ?_
        refine ag_drop 0 ?_
        refine ag_drop 1 ?_
        refine ag_drop 2 ?_
        refine ag_drop 4 ?_
        exact h
      · have h := h.2 hc24
        refine ag_iconst (v := 0) dX1_examineNot_48 rfl ?_
        refine ag_goto (tgt := 53) dX1_examineNot_49 rfl ?_
        refine ag_drop 0 ?_
        refine ag_drop 1 ?_
        refine ag_drop 2 ?_
        refine ag_drop 4 ?_
        exact h
  · have h := h.1 hr10
    refine ag_iconst (v := 0) dX1_examineNot_18 rfl ?_
    exact ag_ret (v := some (.int 0)) dX1_examineNot_19 ⟨_, rfl, rB_n (Or.inl rfl)⟩ ⟨_, rfl, _, rfl, h⟩ rfl
set_option maxRecDepth 20000 in
set_option maxHeartbeats 4000000 in
theorem w_X1_examineNot_53 {c : cX} {d : Nat} {C : cS} {K : Option Value → cS → Prop} (v3 : Option Nat) (v5 : Option Nat) (s0 : Int32) (s1 : Int32) (s2 : Option Nat) (h : ∃ a1 : Nat, s2 = some a1 ∧ (cT C a1 2 4 ∧ (∃ a4 : Nat, v3 = some a4 ∧ (cT C a4 2 4 ∧ (∃ a7 : Nat, v5 = some a7 ∧ (cT C a7 2 4 ∧ (∃ a10 : Nat, (cR C a4 2) = some a10 ∧ (cT C a10 8 2 ∧ (cM c d eX8_copy (.ref a10 :: [va_rf (cR C a7 3)]) (csi (csi C a1 0 (s1 + s0)) a4 1 (-1)) (fun v C12 => v = none ∧ cle (csi (csi C a1 0 (s1 + s0)) a4 1 (-1)) C12 ∧ (∃ a20 : Nat, (cR C12 a4 3) = some a20 ∧ (cT C12 a20 8 2 ∧ (cM c d eX8_copy (.ref a20 :: [va_rf (cR C12 a7 2)]) C12 (fun v C22 => v = none ∧ cle C12 C22 ∧ (K (some (.int 1)) C22))))))))))))))) : cG c eX1_examineNot (d + 1) (cQ K) 53 [none, none, none, some (va_rf v3), none, some (va_rf v5)] [.int s0, .int s1, va_rf s2] C := by
  refine ag_iadd dX1_examineNot_53 rfl ?_
  obtain ⟨a1, hr2, h⟩ := h
  refine cr_stk (st' := [.int (s1 + s0), .ref a1]) (by rw [hr2]; rfl) ?_
  obtain ⟨hT3, h⟩ := h
  refine cr_pi (C2 := (csi C a1 0 (s1 + s0))) dX1_examineNot_54 pw_1_147 rfl hT3 (fun _ => ⟨rfl, rfl⟩) rfl ?_
  refine ag_aload_n dX1_examineNot_57 rfl (va_rf_or _) ?_
  refine ag_iconst (v := (-1)) dX1_examineNot_58 rfl ?_
  obtain ⟨a4, hr5, h⟩ := h
  refine cr_stk (st' := [.int (-1), .ref a4]) (by rw [hr5]; rfl) ?_
  obtain ⟨hT6, h⟩ := h
  refine cr_pi (C2 := (csi (csi C a1 0 (s1 + s0)) a4 1 (-1))) dX1_examineNot_59 pw_1_150 rfl hT6 (fun _ => ⟨rfl, rfl⟩) rfl ?_
  refine ag_aload_n dX1_examineNot_62 rfl (va_rf_or _) ?_
  refine cr_stk (st' := [.ref a4]) (by rw [hr5]; rfl) ?_
  refine cr_get (v := va_rf (cR C a4 2)) dX1_examineNot_63 fw_1_126 hT6 rfl ?_
  refine ag_aload dX1_examineNot_66 rfl (va_rf_or _) ?_
  obtain ⟨a7, hr8, h⟩ := h
  refine cr_stk (st' := [.ref a7, va_rf (cR C a4 2)]) (by rw [hr8]; rfl) ?_
  obtain ⟨hT9, h⟩ := h
  refine cr_get (v := va_rf (cR C a7 3)) dX1_examineNot_68 fw_1_133 hT9 rfl ?_
  obtain ⟨a10, hr11, h⟩ := h
  refine cr_stk (st' := [va_rf (cR C a7 3), .ref a10]) (by rw [hr11]; rfl) ?_
  obtain ⟨hT15, h⟩ := h
  refine cr_callV (as := [va_rf (cR C a7 3)]) (rest := []) dX1_examineNot_71 me_X8_copy mi_X8_copy lk_1_153 hT15 rfl rfl (Nat.le_of_ble_eq_true rfl) ?_
  refine cM.mono h ?_
  rintro v C12 ⟨rfl, hL14, h⟩
  have hT16 := cT.le (C := (csi (csi C a1 0 (s1 + s0)) a4 1 (-1))) hT3 hL14
  have hT17 := cT.le (C := (csi (csi C a1 0 (s1 + s0)) a4 1 (-1))) hT6 hL14
  have hT18 := cT.le (C := (csi (csi C a1 0 (s1 + s0)) a4 1 (-1))) hT9 hL14
  have hT19 := cT.le (C := (csi (csi C a1 0 (s1 + s0)) a4 1 (-1))) hT15 hL14
  show cG _ _ _ _ _ _ [] _
  refine ag_aload_n dX1_examineNot_74 rfl (va_rf_or _) ?_
  refine cr_stk (st' := [.ref a4]) (by rw [hr5]; rfl) ?_
  refine cr_get (v := va_rf (cR C12 a4 3)) dX1_examineNot_75 fw_1_133 hT17 rfl ?_
  refine ag_aload dX1_examineNot_78 rfl (va_rf_or _) ?_
  refine cr_stk (st' := [.ref a7, va_rf (cR C12 a4 3)]) (by rw [hr8]; rfl) ?_
  refine cr_get (v := va_rf (cR C12 a7 2)) dX1_examineNot_80 fw_1_126 hT18 rfl ?_
  obtain ⟨a20, hr21, h⟩ := h
  refine cr_stk (st' := [va_rf (cR C12 a7 2), .ref a20]) (by rw [hr21]; rfl) ?_
  obtain ⟨hT25, h⟩ := h
  refine cr_callV (as := [va_rf (cR C12 a7 2)]) (rest := []) dX1_examineNot_83 me_X8_copy mi_X8_copy lk_1_153 hT25 rfl rfl (Nat.le_of_ble_eq_true rfl) ?_
  refine cM.mono h ?_
  rintro v C22 ⟨rfl, hL24, h⟩
  have hT26 := cT.le (C := C12) hT16 hL24
  have hT27 := cT.le (C := C12) hT17 hL24
  have hT28 := cT.le (C := C12) hT18 hL24
  have hT29 := cT.le (C := C12) hT19 hL24
  have hT30 := cT.le (C := C12) hT25 hL24
  show cG _ _ _ _ _ _ [] _
  refine ag_iconst (v := 1) dX1_examineNot_86 rfl ?_
  exact ag_ret (v := some (.int 1)) dX1_examineNot_87 ⟨_, rfl, rB_n (Or.inr rfl)⟩ ⟨_, rfl, _, rfl, h⟩ rfl
theorem dX1_examineHalf_0 : decode cX1_examineHalf 0 = .ok (.aload_n 0, 1) := by decide +kernel
theorem dX1_examineHalf_1 : decode cX1_examineHalf 1 = .ok (.aload_n 1, 1) := by decide +kernel
theorem dX1_examineHalf_2 : decode cX1_examineHalf 2 = .ok (.getfield 140, 3) := by decide +kernel
theorem dX1_examineHalf_5 : decode cX1_examineHalf 5 = .ok (.aload_n 2, 1) := by decide +kernel
theorem dX1_examineHalf_6 : decode cX1_examineHalf 6 = .ok (.iload 4, 2) := by decide +kernel
theorem dX1_examineHalf_8 : decode cX1_examineHalf 8 = .ok (.invokevirtual 51, 3) := by decide +kernel
theorem dX1_examineHalf_11 : decode cX1_examineHalf 11 = .ok (.astore 5, 2) := by decide +kernel
theorem dX1_examineHalf_13 : decode cX1_examineHalf 13 = .ok (.aload 5, 2) := by decide +kernel
theorem dX1_examineHalf_15 : decode cX1_examineHalf 15 = .ok (.ifnonnull 5, 3) := by decide +kernel
theorem dX1_examineHalf_18 : decode cX1_examineHalf 18 = .ok (.iconst 0, 1) := by decide +kernel
theorem dX1_examineHalf_19 : decode cX1_examineHalf 19 = .ok (.ireturn, 1) := by decide +kernel
theorem dX1_examineHalf_20 : decode cX1_examineHalf 20 = .ok (.aload 5, 2) := by decide +kernel
theorem dX1_examineHalf_22 : decode cX1_examineHalf 22 = .ok (.getfield 147, 3) := by decide +kernel
theorem dX1_examineHalf_25 : decode cX1_examineHalf 25 = .ok (.bipush (-17), 2) := by decide +kernel
theorem dX1_examineHalf_27 : decode cX1_examineHalf 27 = .ok (.iand, 1) := by decide +kernel
theorem dX1_examineHalf_28 : decode cX1_examineHalf 28 = .ok (.ifCond .eq 9, 3) := by decide +kernel
theorem dX1_examineHalf_31 : decode cX1_examineHalf 31 = .ok (.aload_n 0, 1) := by decide +kernel
theorem dX1_examineHalf_32 : decode cX1_examineHalf 32 = .ok (.aload_n 1, 1) := by decide +kernel
theorem dX1_examineHalf_33 : decode cX1_examineHalf 33 = .ok (.invokevirtual 118, 3) := by decide +kernel
theorem dX1_examineHalf_36 : decode cX1_examineHalf 36 = .ok (.ireturn, 1) := by decide +kernel
theorem dX1_examineHalf_37 : decode cX1_examineHalf 37 = .ok (.aload 5, 2) := by decide +kernel
theorem dX1_examineHalf_39 : decode cX1_examineHalf 39 = .ok (.getfield 150, 3) := by decide +kernel
theorem dX1_examineHalf_42 : decode cX1_examineHalf 42 = .ok (.iconst (-1), 1) := by decide +kernel
theorem dX1_examineHalf_43 : decode cX1_examineHalf 43 = .ok (.if_icmp .ne 7, 3) := by decide +kernel
theorem dX1_examineHalf_46 : decode cX1_examineHalf 46 = .ok (.iconst (-1), 1) := by decide +kernel
theorem dX1_examineHalf_47 : decode cX1_examineHalf 47 = .ok (.goto 25, 3) := by decide +kernel
theorem dX1_examineHalf_50 : decode cX1_examineHalf 50 = .ok (.aload 5, 2) := by decide +kernel
theorem dX1_examineHalf_52 : decode cX1_examineHalf 52 = .ok (.getfield 150, 3) := by decide +kernel
theorem dX1_examineHalf_55 : decode cX1_examineHalf 55 = .ok (.aload_n 1, 1) := by decide +kernel
theorem dX1_examineHalf_56 : decode cX1_examineHalf 56 = .ok (.getfield 74, 3) := by decide +kernel
theorem dX1_examineHalf_59 : decode cX1_examineHalf 59 = .ok (.bipush 65, 2) := by decide +kernel
theorem dX1_examineHalf_61 : decode cX1_examineHalf 61 = .ok (.if_icmp .ne 7, 3) := by decide +kernel
theorem dX1_examineHalf_64 : decode cX1_examineHalf 64 = .ok (.iconst 1, 1) := by decide +kernel
theorem dX1_examineHalf_65 : decode cX1_examineHalf 65 = .ok (.goto 4, 3) := by decide +kernel
theorem dX1_examineHalf_68 : decode cX1_examineHalf 68 = .ok (.iconst 2, 1) := by decide +kernel
theorem dX1_examineHalf_69 : decode cX1_examineHalf 69 = .ok (.invokestatic 156, 3) := by decide +kernel
theorem dX1_examineHalf_72 : decode cX1_examineHalf 72 = .ok (.istore 6, 2) := by decide +kernel
theorem dX1_examineHalf_74 : decode cX1_examineHalf 74 = .ok (.aload 5, 2) := by decide +kernel
theorem dX1_examineHalf_76 : decode cX1_examineHalf 76 = .ok (.getfield 147, 3) := by decide +kernel
theorem dX1_examineHalf_79 : decode cX1_examineHalf 79 = .ok (.ifCond .eq 9, 3) := by decide +kernel
theorem dX1_examineHalf_82 : decode cX1_examineHalf 82 = .ok (.iload 6, 2) := by decide +kernel
theorem dX1_examineHalf_84 : decode cX1_examineHalf 84 = .ok (.iconst (-1), 1) := by decide +kernel
theorem dX1_examineHalf_85 : decode cX1_examineHalf 85 = .ok (.if_icmp .ne 26, 3) := by decide +kernel
theorem dX1_examineHalf_88 : decode cX1_examineHalf 88 = .ok (.aload_n 3, 1) := by decide +kernel
theorem dX1_examineHalf_89 : decode cX1_examineHalf 89 = .ok (.aload 5, 2) := by decide +kernel
theorem dX1_examineHalf_91 : decode cX1_examineHalf 91 = .ok (.getfield 147, 3) := by decide +kernel
theorem dX1_examineHalf_94 : decode cX1_examineHalf 94 = .ok (.ifCond .ne 7, 3) := by decide +kernel
theorem dX1_examineHalf_97 : decode cX1_examineHalf 97 = .ok (.iconst 0, 1) := by decide +kernel
theorem dX1_examineHalf_98 : decode cX1_examineHalf 98 = .ok (.goto 5, 3) := by decide +kernel
theorem dX1_examineHalf_101 : decode cX1_examineHalf 101 = .ok (.bipush 31, 2) := by decide +kernel
theorem dX1_examineHalf_103 : decode cX1_examineHalf 103 = .ok (.iconst (-1), 1) := by decide +kernel
theorem dX1_examineHalf_104 : decode cX1_examineHalf 104 = .ok (.aload_n 2, 1) := by decide +kernel
theorem dX1_examineHalf_105 : decode cX1_examineHalf 105 = .ok (.invokevirtual 114, 3) := by decide +kernel
theorem dX1_examineHalf_108 : decode cX1_examineHalf 108 = .ok (.goto 11, 3) := by decide +kernel
theorem dX1_examineHalf_111 : decode cX1_examineHalf 111 = .ok (.aload_n 0, 1) := by decide +kernel
theorem dX1_examineHalf_112 : decode cX1_examineHalf 112 = .ok (.iload 6, 2) := by decide +kernel
theorem dX1_examineHalf_114 : decode cX1_examineHalf 114 = .ok (.aload_n 2, 1) := by decide +kernel
theorem dX1_examineHalf_115 : decode cX1_examineHalf 115 = .ok (.aload_n 3, 1) := by decide +kernel
theorem dX1_examineHalf_116 : decode cX1_examineHalf 116 = .ok (.invokevirtual 122, 3) := by decide +kernel
theorem dX1_examineHalf_119 : decode cX1_examineHalf 119 = .ok (.iconst 1, 1) := by decide +kernel
theorem dX1_examineHalf_120 : decode cX1_examineHalf 120 = .ok (.ireturn, 1) := by decide +kernel
set_option maxRecDepth 20000 in
set_option maxHeartbeats 4000000 in
theorem w_X1_examineHalf {c : cX} {d : Nat} {C : cS} {K : Option Value → cS → Prop} (t : Nat) (p0 : Option Nat) (p1 : Option Nat) (p2 : Option Nat) (p3 : Int32) (h : ∃ a1 : Nat, p0 = some a1 ∧ (cT C a1 5 7 ∧ (cT C t 1 7 ∧ (cM c d eX1_examine (.ref t :: [va_rf (cR C a1 4), va_rf p1, .int p3]) C (fun v C4 => ∃ z5 : Option Nat, v = some (va_rf z5) ∧ cle C C4 ∧ ((z5 = none → (K (some (.int 0)) C4)) ∧ (∀ a11 : Nat, z5 = some a11 → (cT C4 a11 2 4 ∧ ((((cI C4 a11 0) &&& (-17)) = 0 → ((¬ (cI C4 a11 1) = (-1) → ((¬ (cI C4 a1 0) = 65 → (cM c d eX9_reach [.int (cI C4 a11 1), .int 2] C4 (fun v C16 => ∃ z17 : Int32, v = some (.int z17) ∧ cle C4 C16 ∧ (cG c eX1_examineHalf (d + 1) (cQ K) 72 [some (.ref t), none, some (va_rf p1), some (va_rf p2), none, some (va_rf z5), none] [.int z17] C16)))) ∧ ((cI C4 a1 0) = 65 → (cM c d eX9_reach [.int (cI C4 a11 1), .int 1] C4 (fun v C22 => ∃ z23 : Int32, v = some (.int z23) ∧ cle C4 C22 ∧ (cG c eX1_examineHalf (d + 1) (cQ K) 72 [some (.ref t), none, some (va_rf p1), some (va_rf p2), none, some (va_rf z5), none] [.int z23] C22)))))) ∧ ((cI C4 a11 1) = (-1) → (cG c eX1_examineHalf (d + 1) (cQ K) 72 [some (.ref t), none, some (va_rf p1), some (va_rf p2), none, some (va_rf z5), none] [.int (-1)] C4)))) ∧ (¬ ((cI C4 a11 0) &&& (-17)) = 0 → (cM c d eX1_refuse (.ref t :: [va_rf p0]) C4 (fun v C28 => ∃ z29 : Int32, v = some (.int z29) ∧ cle C4 C28 ∧ (rB z29 ∧ K (some (.int z29)) C28))))))))))))) : cM c (d + 1) eX1_examineHalf [.ref t, va_rf p0, va_rf p1, va_rf p2, .int p3] C K := by
  refine cM.of2 (lv := [some (.ref t), some (va_rf p0), some (va_rf p1), some (va_rf p2), some (.int p3), none, none]) (by decide) (by simp only [am_sl_i, am_sl_r, am_sl_l, am_sl_o, am_sl_n]; exact Nat.le_of_ble_eq_true rfl) (by simp only [am_en, am_sl_i, am_sl_r, am_sl_l, am_sl_o, am_sl_n]; rfl) ?_
  refine ag_aload_n dX1_examineHalf_0 rfl (Or.inr ⟨_, rfl⟩) ?_
  refine ag_aload_n dX1_examineHalf_1 rfl (va_rf_or _) ?_
  obtain ⟨a1, hr2, h⟩ := h
  refine cr_stk (st' := [.ref a1, .ref t]) (by rw [hr2]; rfl) ?_
  obtain ⟨hT3, h⟩ := h
  refine cr_get (v := va_rf (cR C a1 4)) dX1_examineHalf_2 fw_1_140 hT3 rfl ?_
  refine ag_aload_n dX1_examineHalf_5 rfl (va_rf_or _) ?_
  refine ag_iload dX1_examineHalf_6 rfl ?_
  obtain ⟨hT7, h⟩ := h
  refine cr_callV (as := [va_rf (cR C a1 4), va_rf p1, .int p3]) (rest := []) dX1_examineHalf_8 me_X1_examine mi_X1_examine lk_1_51 hT7 rfl rfl (Nat.le_of_ble_eq_true rfl) ?_
  refine cM.mono h ?_
  rintro v C4 ⟨z5, rfl, hL6, h⟩
  have hT8 := cT.le (C := C) hT3 hL6
  have hT9 := cT.le (C := C) hT7 hL6
  show cG _ _ _ _ _ _ [va_rf z5] _
  refine ag_astore (lv2 := [some (.ref t), some (va_rf p0), some (va_rf p1), some (va_rf p2), some (.int p3), some (va_rf z5), none]) dX1_examineHalf_11 (Nat.le_of_ble_eq_true rfl) rfl (va_rf_or _) ?_
  refine ag_aload dX1_examineHalf_13 rfl (va_rf_or _) ?_
  refine cr_ifnonnull (tgt := 20) dX1_examineHalf_15 rfl (fun a11 hr10 => ?_) (fun hr10 => ?_)
  · have h := h.2 a11 hr10
    refine ag_aload dX1_examineHalf_20 rfl (va_rf_or _) ?_
    refine cr_stk (st' := [.ref a11]) (by rw [hr10]; rfl) ?_
    obtain ⟨hT12, h⟩ := h
    refine cr_get (v := .int (cI C4 a11 0)) dX1_examineHalf_22 fw_1_147 hT12 rfl ?_
    refine ag_bipush (v := (-17)) dX1_examineHalf_25 (by decide) ?_
    refine ag_iand dX1_examineHalf_27 rfl ?_
    refine ag_if_eq (tgt := 37) dX1_examineHalf_28 rfl (fun hc13 => ?_) (fun hc13 => ?_)
    · have h := h.1 hc13
      refine ag_aload dX1_examineHalf_37 rfl (va_rf_or _) ?_
      refine cr_stk (st' := [.ref a11]) (by rw [hr10]; rfl) ?_
      refine cr_get (v := .int (cI C4 a11 1)) dX1_examineHalf_39 fw_1_150 hT12 rfl ?_
      refine ag_iconst (v := (-1)) dX1_examineHalf_42 rfl ?_
      refine ag_icmp_ne (tgt := 50) dX1_examineHalf_43 rfl (fun hc14 => ?_) (fun hc14 => ?_)
      · have h := h.1 hc14
        refine ag_aload dX1_examineHalf_50 rfl (va_rf_or _) ?_
        refine cr_stk (st' := [.ref a11]) (by rw [hr10]; rfl) ?_
        refine cr_get (v := .int (cI C4 a11 1)) dX1_examineHalf_52 fw_1_150 hT12 rfl ?_
        refine ag_aload_n dX1_examineHalf_55 rfl (va_rf_or _) ?_
        refine cr_stk (st' := [.ref a1, .int (cI C4 a11 1)]) (by rw [hr2]; rfl) ?_
        refine cr_get (v := .int (cI C4 a1 0)) dX1_examineHalf_56 fw_1_74 hT8 rfl ?_
        refine ag_bipush (v := 65) dX1_examineHalf_59 (by decide) ?_
        refine ag_icmp_ne (tgt := 68) dX1_examineHalf_61 rfl (fun hc15 => ?_) (fun hc15 => ?_)
        · have h := h.1 hc15
          refine ag_iconst (v := 2) dX1_examineHalf_68 rfl ?_
          refine cr_callSN (as := [.int (cI C4 a11 1), .int 2]) (rest := []) dX1_examineHalf_69 me_X9_reach ms_X9_reach ln_1_156 rfl rfl (Nat.le_of_ble_eq_true rfl) ?_
          refine cM.mono h ?_
          rintro v C16 ⟨z17, rfl, hL18, h⟩
          have hT19 := cT.le (C := C4) hT8 hL18
          have hT20 := cT.le (C := C4) hT9 hL18
          have hT21 := cT.le (C := C4) hT12 hL18
          show cG _ _ _ _ _ _ [.int z17] _
          refine ag_drop 1 ?_
          refine ag_drop 4 ?_
          exact h
        · have h := h.2 hc15
          refine ag_iconst (v := 1) dX1_examineHalf_64 rfl ?_
          refine ag_goto (tgt := 69) dX1_examineHalf_65 rfl ?_
          refine cr_callSN (as := [.int (cI C4 a11 1), .int 1]) (rest := []) dX1_examineHalf_69 me_X9_reach ms_X9_reach ln_1_156 rfl rfl (Nat.le_of_ble_eq_true rfl) ?_
          refine cM.mono h ?_
          rintro v C22 ⟨z23, rfl, hL24, h⟩
          have hT25 := cT.le (C := C4) hT8 hL24
          have hT26 := cT.le (C := C4) hT9 hL24
          have hT27 := cT.le (C := C4) hT12 hL24
          show cG _ _ _ _ _ _ [.int z23] _
          refine ag_drop 1 ?_
          refine ag_drop 4 ?_
          exact h
      · have h := h.2 hc14
        refine ag_iconst (v := (-1)) dX1_examineHalf_46 rfl ?_
        refine ag_goto (tgt := 72) dX1_examineHalf_47 rfl ?_
        refine ag_drop 1 ?_
        refine ag_drop 4 ?_
        exact h
    · have h := h.2 hc13
      refine ag_aload_n dX1_examineHalf_31 rfl (Or.inr ⟨_, rfl⟩) ?_
      refine ag_aload_n dX1_examineHalf_32 rfl (va_rf_or _) ?_
      refine cr_callV (as := [va_rf p0]) (rest := []) dX1_examineHalf_33 me_X1_refuse mi_X1_refuse lk_1_118 hT9 rfl rfl (Nat.le_of_ble_eq_true rfl) ?_
      refine cM.mono h ?_
      rintro v C28 ⟨z29, rfl, hL30, h⟩
      have hT31 := cT.le (C := C4) hT8 hL30
      have hT32 := cT.le (C := C4) hT9 hL30
      have hT33 := cT.le (C := C4) hT12 hL30
      show cG _ _ _ _ _ _ [.int z29] _
      obtain ⟨hb34, h⟩ := h
      exact ag_ret (v := some (.int z29)) dX1_examineHalf_36 ⟨_, rfl, rB_n hb34⟩ ⟨_, rfl, _, rfl, h⟩ rfl
  · have h := h.1 hr10
    refine ag_iconst (v := 0) dX1_examineHalf_18 rfl ?_
    exact ag_ret (v := some (.int 0)) dX1_examineHalf_19 ⟨_, rfl, rB_n (Or.inl rfl)⟩ ⟨_, rfl, _, rfl, h⟩ rfl
set_option maxRecDepth 20000 in
set_option maxHeartbeats 4000000 in
theorem w_X1_examineHalf_72 {c : cX} {d : Nat} {C : cS} {K : Option Value → cS → Prop} (t : Nat) (v2 : Option Nat) (v3 : Option Nat) (v5 : Option Nat) (s0 : Int32) (h : ∃ a1 : Nat, v5 = some a1 ∧ (cT C a1 2 4 ∧ (((cI C a1 0) = 0 → (cG c eX1_examineHalf (d + 1) (cQ K) 88 [none, none, some (va_rf v2), some (va_rf v3), none, some (va_rf v5), none] [] C)) ∧ (¬ (cI C a1 0) = 0 → ((¬ s0 = (-1) → (cT C t 1 7 ∧ (cM c d eX1_assignPlace (.ref t :: [.int s0, va_rf v2, va_rf v3]) C (fun v C6 => v = none ∧ cle C C6 ∧ (K (some (.int 1)) C6))))) ∧ (s0 = (-1) → (cG c eX1_examineHalf (d + 1) (cQ K) 88 [none, none, some (va_rf v2), some (va_rf v3), none, some (va_rf v5), none] [] C))))))) : cG c eX1_examineHalf (d + 1) (cQ K) 72 [some (.ref t), none, some (va_rf v2), some (va_rf v3), none, some (va_rf v5), none] [.int s0] C := by
  refine ag_istore (lv2 := [some (.ref t), none, some (va_rf v2), some (va_rf v3), none, some (va_rf v5), some (.int s0)]) dX1_examineHalf_72 (Nat.le_of_ble_eq_true rfl) (by simp [am_st1, am_kill, va_rf_cat] <;> rfl) ?_
  refine ag_aload dX1_examineHalf_74 rfl (va_rf_or _) ?_
  obtain ⟨a1, hr2, h⟩ := h
  refine cr_stk (st' := [.ref a1]) (by rw [hr2]; rfl) ?_
  obtain ⟨hT3, h⟩ := h
  refine cr_get (v := .int (cI C a1 0)) dX1_examineHalf_76 fw_1_147 hT3 rfl ?_
  refine ag_if_eq (tgt := 88) dX1_examineHalf_79 rfl (fun hc4 => ?_) (fun hc4 => ?_)
  · have h := h.1 hc4
    refine ag_drop 0 ?_
    refine ag_drop 6 ?_
    exact h
  · have h := h.2 hc4
    refine ag_iload dX1_examineHalf_82 rfl ?_
    refine ag_iconst (v := (-1)) dX1_examineHalf_84 rfl ?_
    refine ag_icmp_ne (tgt := 111) dX1_examineHalf_85 rfl (fun hc5 => ?_) (fun hc5 => ?_)
    · have h := h.1 hc5
      refine ag_aload_n dX1_examineHalf_111 rfl (Or.inr ⟨_, rfl⟩) ?_
      refine ag_iload dX1_examineHalf_112 rfl ?_
      refine ag_aload_n dX1_examineHalf_114 rfl (va_rf_or _) ?_
      refine ag_aload_n dX1_examineHalf_115 rfl (va_rf_or _) ?_
      obtain ⟨hT9, h⟩ := h
      refine cr_callV (as := [.int s0, va_rf v2, va_rf v3]) (rest := []) dX1_examineHalf_116 me_X1_assignPlace mi_X1_assignPlace lk_1_122 hT9 rfl rfl (Nat.le_of_ble_eq_true rfl) ?_
      refine cM.mono h ?_
      rintro v C6 ⟨rfl, hL8, h⟩
      have hT10 := cT.le (C := C) hT3 hL8
      have hT11 := cT.le (C := C) hT9 hL8
      show cG _ _ _ _ _ _ [] _
      refine ag_iconst (v := 1) dX1_examineHalf_119 rfl ?_
      exact ag_ret (v := some (.int 1)) dX1_examineHalf_120 ⟨_, rfl, rB_n (Or.inr rfl)⟩ ⟨_, rfl, _, rfl, h⟩ rfl
    · have h := h.2 hc5
      refine ag_drop 0 ?_
      refine ag_drop 6 ?_
      exact h
set_option maxRecDepth 20000 in
set_option maxHeartbeats 4000000 in
theorem w_X1_examineHalf_88 {c : cX} {d : Nat} {C : cS} {K : Option Value → cS → Prop} (v2 : Option Nat) (v3 : Option Nat) (v5 : Option Nat) (h : ∃ a1 : Nat, v5 = some a1 ∧ (cT C a1 2 4 ∧ ((¬ (cI C a1 0) = 0 → (∃ a5 : Nat, v3 = some a5 ∧ (cT C a5 2 4 ∧ (cM c d eX2_assign (.ref a5 :: [.int 31, .int (-1), va_rf v2]) C (fun v C7 => v = none ∧ cle C C7 ∧ (K (some (.int 1)) C7)))))) ∧ ((cI C a1 0) = 0 → (∃ a13 : Nat, v3 = some a13 ∧ (cT C a13 2 4 ∧ (cM c d eX2_assign (.ref a13 :: [.int 0, .int (-1), va_rf v2]) C (fun v C15 => v = none ∧ cle C C15 ∧ (K (some (.int 1)) C15))))))))) : cG c eX1_examineHalf (d + 1) (cQ K) 88 [none, none, some (va_rf v2), some (va_rf v3), none, some (va_rf v5), none] [] C := by
  refine ag_aload_n dX1_examineHalf_88 rfl (va_rf_or _) ?_
  refine ag_aload dX1_examineHalf_89 rfl (va_rf_or _) ?_
  obtain ⟨a1, hr2, h⟩ := h
  refine cr_stk (st' := [.ref a1, va_rf v3]) (by rw [hr2]; rfl) ?_
  obtain ⟨hT3, h⟩ := h
  refine cr_get (v := .int (cI C a1 0)) dX1_examineHalf_91 fw_1_147 hT3 rfl ?_
  refine ag_if_ne (tgt := 101) dX1_examineHalf_94 rfl (fun hc4 => ?_) (fun hc4 => ?_)
  · have h := h.1 hc4
    refine ag_bipush (v := 31) dX1_examineHalf_101 (by decide) ?_
    refine ag_iconst (v := (-1)) dX1_examineHalf_103 rfl ?_
    refine ag_aload_n dX1_examineHalf_104 rfl (va_rf_or _) ?_
    obtain ⟨a5, hr6, h⟩ := h
    refine cr_stk (st' := [va_rf v2, .int (-1), .int 31, .ref a5]) (by rw [hr6]; rfl) ?_
    obtain ⟨hT10, h⟩ := h
    refine cr_callV (as := [.int 31, .int (-1), va_rf v2]) (rest := []) dX1_examineHalf_105 me_X2_assign mi_X2_assign lk_1_114 hT10 rfl rfl (Nat.le_of_ble_eq_true rfl) ?_
    refine cM.mono h ?_
    rintro v C7 ⟨rfl, hL9, h⟩
    have hT11 := cT.le (C := C) hT3 hL9
    have hT12 := cT.le (C := C) hT10 hL9
    show cG _ _ _ _ _ _ [] _
    refine ag_goto (tgt := 119) dX1_examineHalf_108 rfl ?_
    refine ag_iconst (v := 1) dX1_examineHalf_119 rfl ?_
    exact ag_ret (v := some (.int 1)) dX1_examineHalf_120 ⟨_, rfl, rB_n (Or.inr rfl)⟩ ⟨_, rfl, _, rfl, h⟩ rfl
  · have h := h.2 hc4
    refine ag_iconst (v := 0) dX1_examineHalf_97 rfl ?_
    refine ag_goto (tgt := 103) dX1_examineHalf_98 rfl ?_
    refine ag_iconst (v := (-1)) dX1_examineHalf_103 rfl ?_
    refine ag_aload_n dX1_examineHalf_104 rfl (va_rf_or _) ?_
    obtain ⟨a13, hr14, h⟩ := h
    refine cr_stk (st' := [va_rf v2, .int (-1), .int 0, .ref a13]) (by rw [hr14]; rfl) ?_
    obtain ⟨hT18, h⟩ := h
    refine cr_callV (as := [.int 0, .int (-1), va_rf v2]) (rest := []) dX1_examineHalf_105 me_X2_assign mi_X2_assign lk_1_114 hT18 rfl rfl (Nat.le_of_ble_eq_true rfl) ?_
    refine cM.mono h ?_
    rintro v C15 ⟨rfl, hL17, h⟩
    have hT19 := cT.le (C := C) hT3 hL17
    have hT20 := cT.le (C := C) hT18 hL17
    show cG _ _ _ _ _ _ [] _
    refine ag_goto (tgt := 119) dX1_examineHalf_108 rfl ?_
    refine ag_iconst (v := 1) dX1_examineHalf_119 rfl ?_
    exact ag_ret (v := some (.int 1)) dX1_examineHalf_120 ⟨_, rfl, rB_n (Or.inr rfl)⟩ ⟨_, rfl, _, rfl, h⟩ rfl
theorem dX1_examineTwo_0 : decode cX1_examineTwo 0 = .ok (.aload_n 0, 1) := by decide +kernel
theorem dX1_examineTwo_1 : decode cX1_examineTwo 1 = .ok (.aload_n 1, 1) := by decide +kernel
theorem dX1_examineTwo_2 : decode cX1_examineTwo 2 = .ok (.getfield 140, 3) := by decide +kernel
theorem dX1_examineTwo_5 : decode cX1_examineTwo 5 = .ok (.aload_n 2, 1) := by decide +kernel
theorem dX1_examineTwo_6 : decode cX1_examineTwo 6 = .ok (.iload 4, 2) := by decide +kernel
theorem dX1_examineTwo_8 : decode cX1_examineTwo 8 = .ok (.invokevirtual 51, 3) := by decide +kernel
theorem dX1_examineTwo_11 : decode cX1_examineTwo 11 = .ok (.astore 5, 2) := by decide +kernel
theorem dX1_examineTwo_13 : decode cX1_examineTwo 13 = .ok (.aload 5, 2) := by decide +kernel
theorem dX1_examineTwo_15 : decode cX1_examineTwo 15 = .ok (.ifnonnull 7, 3) := by decide +kernel
theorem dX1_examineTwo_18 : decode cX1_examineTwo 18 = .ok (.aconst_null, 1) := by decide +kernel
theorem dX1_examineTwo_19 : decode cX1_examineTwo 19 = .ok (.goto 14, 3) := by decide +kernel
theorem dX1_examineTwo_22 : decode cX1_examineTwo 22 = .ok (.aload_n 0, 1) := by decide +kernel
theorem dX1_examineTwo_23 : decode cX1_examineTwo 23 = .ok (.aload_n 1, 1) := by decide +kernel
theorem dX1_examineTwo_24 : decode cX1_examineTwo 24 = .ok (.getfield 160, 3) := by decide +kernel
theorem dX1_examineTwo_27 : decode cX1_examineTwo 27 = .ok (.aload_n 2, 1) := by decide +kernel
theorem dX1_examineTwo_28 : decode cX1_examineTwo 28 = .ok (.iload 4, 2) := by decide +kernel
theorem dX1_examineTwo_30 : decode cX1_examineTwo 30 = .ok (.invokevirtual 51, 3) := by decide +kernel
theorem dX1_examineTwo_33 : decode cX1_examineTwo 33 = .ok (.astore 6, 2) := by decide +kernel
theorem dX1_examineTwo_35 : decode cX1_examineTwo 35 = .ok (.aload 5, 2) := by decide +kernel
theorem dX1_examineTwo_37 : decode cX1_examineTwo 37 = .ok (.ifnull 8, 3) := by decide +kernel
theorem dX1_examineTwo_40 : decode cX1_examineTwo 40 = .ok (.aload 6, 2) := by decide +kernel
theorem dX1_examineTwo_42 : decode cX1_examineTwo 42 = .ok (.ifnonnull 5, 3) := by decide +kernel
theorem dX1_examineTwo_45 : decode cX1_examineTwo 45 = .ok (.iconst 0, 1) := by decide +kernel
theorem dX1_examineTwo_46 : decode cX1_examineTwo 46 = .ok (.ireturn, 1) := by decide +kernel
theorem dX1_examineTwo_47 : decode cX1_examineTwo 47 = .ok (.aload_n 1, 1) := by decide +kernel
theorem dX1_examineTwo_48 : decode cX1_examineTwo 48 = .ok (.getfield 74, 3) := by decide +kernel
theorem dX1_examineTwo_51 : decode cX1_examineTwo 51 = .ok (.bipush 67, 2) := by decide +kernel
theorem dX1_examineTwo_53 : decode cX1_examineTwo 53 = .ok (.if_icmp .eq 26, 3) := by decide +kernel
theorem dX1_examineTwo_56 : decode cX1_examineTwo 56 = .ok (.aload 5, 2) := by decide +kernel
theorem dX1_examineTwo_58 : decode cX1_examineTwo 58 = .ok (.getfield 147, 3) := by decide +kernel
theorem dX1_examineTwo_61 : decode cX1_examineTwo 61 = .ok (.aload 6, 2) := by decide +kernel
theorem dX1_examineTwo_63 : decode cX1_examineTwo 63 = .ok (.getfield 147, 3) := by decide +kernel
theorem dX1_examineTwo_66 : decode cX1_examineTwo 66 = .ok (.ior, 1) := by decide +kernel
theorem dX1_examineTwo_67 : decode cX1_examineTwo 67 = .ok (.bipush (-2), 2) := by decide +kernel
theorem dX1_examineTwo_69 : decode cX1_examineTwo 69 = .ok (.iand, 1) := by decide +kernel
theorem dX1_examineTwo_70 : decode cX1_examineTwo 70 = .ok (.ifCond .eq 9, 3) := by decide +kernel
theorem dX1_examineTwo_73 : decode cX1_examineTwo 73 = .ok (.aload_n 0, 1) := by decide +kernel
theorem dX1_examineTwo_74 : decode cX1_examineTwo 74 = .ok (.aload_n 1, 1) := by decide +kernel
theorem dX1_examineTwo_75 : decode cX1_examineTwo 75 = .ok (.invokevirtual 118, 3) := by decide +kernel
theorem dX1_examineTwo_78 : decode cX1_examineTwo 78 = .ok (.ireturn, 1) := by decide +kernel
theorem dX1_examineTwo_79 : decode cX1_examineTwo 79 = .ok (.aload_n 3, 1) := by decide +kernel
theorem dX1_examineTwo_80 : decode cX1_examineTwo 80 = .ok (.aload_n 1, 1) := by decide +kernel
theorem dX1_examineTwo_81 : decode cX1_examineTwo 81 = .ok (.getfield 74, 3) := by decide +kernel
theorem dX1_examineTwo_84 : decode cX1_examineTwo 84 = .ok (.bipush 67, 2) := by decide +kernel
theorem dX1_examineTwo_86 : decode cX1_examineTwo 86 = .ok (.if_icmp .ne 8, 3) := by decide +kernel
theorem dX1_examineTwo_89 : decode cX1_examineTwo 89 = .ok (.bipush 16, 2) := by decide +kernel
theorem dX1_examineTwo_91 : decode cX1_examineTwo 91 = .ok (.goto 18, 3) := by decide +kernel
theorem dX1_examineTwo_94 : decode cX1_examineTwo 94 = .ok (.aload_n 1, 1) := by decide +kernel
theorem dX1_examineTwo_95 : decode cX1_examineTwo 95 = .ok (.getfield 74, 3) := by decide +kernel
theorem dX1_examineTwo_98 : decode cX1_examineTwo 98 = .ok (.bipush 60, 2) := by decide +kernel
theorem dX1_examineTwo_100 : decode cX1_examineTwo 100 = .ok (.if_icmp .ne 8, 3) := by decide +kernel
theorem dX1_examineTwo_103 : decode cX1_examineTwo 103 = .ok (.bipush 6, 2) := by decide +kernel
theorem dX1_examineTwo_105 : decode cX1_examineTwo 105 = .ok (.goto 4, 3) := by decide +kernel
theorem dX1_examineTwo_108 : decode cX1_examineTwo 108 = .ok (.iconst 1, 1) := by decide +kernel
theorem dX1_examineTwo_109 : decode cX1_examineTwo 109 = .ok (.iconst (-1), 1) := by decide +kernel
theorem dX1_examineTwo_110 : decode cX1_examineTwo 110 = .ok (.aload_n 2, 1) := by decide +kernel
theorem dX1_examineTwo_111 : decode cX1_examineTwo 111 = .ok (.invokevirtual 114, 3) := by decide +kernel
theorem dX1_examineTwo_114 : decode cX1_examineTwo 114 = .ok (.iconst 1, 1) := by decide +kernel
theorem dX1_examineTwo_115 : decode cX1_examineTwo 115 = .ok (.ireturn, 1) := by decide +kernel
set_option maxRecDepth 20000 in
set_option maxHeartbeats 4000000 in
theorem w_X1_examineTwo {c : cX} {d : Nat} {C : cS} {K : Option Value → cS → Prop} (t : Nat) (p0 : Option Nat) (p1 : Option Nat) (p2 : Option Nat) (p3 : Int32) (h : ∃ a1 : Nat, p0 = some a1 ∧ (cT C a1 5 7 ∧ (cT C t 1 7 ∧ (cM c d eX1_examine (.ref t :: [va_rf (cR C a1 4), va_rf p1, .int p3]) C (fun v C4 => ∃ z5 : Option Nat, v = some (va_rf z5) ∧ cle C C4 ∧ ((z5 = none → (cG c eX1_examineTwo (d + 1) (cQ K) 33 [some (.ref t), some (va_rf p0), some (va_rf p1), some (va_rf p2), none, some (va_rf z5), none] [va_rf none] C4)) ∧ (∀ a11 : Nat, z5 = some a11 → (cM c d eX1_examine (.ref t :: [va_rf (cR C4 a1 5), va_rf p1, .int p3]) C4 (fun v C12 => ∃ z13 : Option Nat, v = some (va_rf z13) ∧ cle C4 C12 ∧ (cG c eX1_examineTwo (d + 1) (cQ K) 33 [some (.ref t), some (va_rf p0), some (va_rf p1), some (va_rf p2), none, some (va_rf z5), none] [va_rf z13] C12)))))))))) : cM c (d + 1) eX1_examineTwo [.ref t, va_rf p0, va_rf p1, va_rf p2, .int p3] C K := by
  refine cM.of2 (lv := [some (.ref t), some (va_rf p0), some (va_rf p1), some (va_rf p2), some (.int p3), none, none]) (by decide) (by simp only [am_sl_i, am_sl_r, am_sl_l, am_sl_o, am_sl_n]; exact Nat.le_of_ble_eq_true rfl) (by simp only [am_en, am_sl_i, am_sl_r, am_sl_l, am_sl_o, am_sl_n]; rfl) ?_
  refine ag_aload_n dX1_examineTwo_0 rfl (Or.inr ⟨_, rfl⟩) ?_
  refine ag_aload_n dX1_examineTwo_1 rfl (va_rf_or _) ?_
  obtain ⟨a1, hr2, h⟩ := h
  refine cr_stk (st' := [.ref a1, .ref t]) (by rw [hr2]; rfl) ?_
  obtain ⟨hT3, h⟩ := h
  refine cr_get (v := va_rf (cR C a1 4)) dX1_examineTwo_2 fw_1_140 hT3 rfl ?_
  refine ag_aload_n dX1_examineTwo_5 rfl (va_rf_or _) ?_
  refine ag_iload dX1_examineTwo_6 rfl ?_
  obtain ⟨hT7, h⟩ := h
  refine cr_callV (as := [va_rf (cR C a1 4), va_rf p1, .int p3]) (rest := []) dX1_examineTwo_8 me_X1_examine mi_X1_examine lk_1_51 hT7 rfl rfl (Nat.le_of_ble_eq_true rfl) ?_
  refine cM.mono h ?_
  rintro v C4 ⟨z5, rfl, hL6, h⟩
  have hT8 := cT.le (C := C) hT3 hL6
  have hT9 := cT.le (C := C) hT7 hL6
  show cG _ _ _ _ _ _ [va_rf z5] _
  refine ag_astore (lv2 := [some (.ref t), some (va_rf p0), some (va_rf p1), some (va_rf p2), some (.int p3), some (va_rf z5), none]) dX1_examineTwo_11 (Nat.le_of_ble_eq_true rfl) rfl (va_rf_or _) ?_
  refine ag_aload dX1_examineTwo_13 rfl (va_rf_or _) ?_
  refine cr_ifnonnull (tgt := 22) dX1_examineTwo_15 rfl (fun a11 hr10 => ?_) (fun hr10 => ?_)
  · have h := h.2 a11 hr10
    refine ag_aload_n dX1_examineTwo_22 rfl (Or.inr ⟨_, rfl⟩) ?_
    refine ag_aload_n dX1_examineTwo_23 rfl (va_rf_or _) ?_
    refine cr_stk (st' := [.ref a1, .ref t]) (by rw [hr2]; rfl) ?_
    refine cr_get (v := va_rf (cR C4 a1 5)) dX1_examineTwo_24 fw_1_160 hT8 rfl ?_
    refine ag_aload_n dX1_examineTwo_27 rfl (va_rf_or _) ?_
    refine ag_iload dX1_examineTwo_28 rfl ?_
    refine cr_callV (as := [va_rf (cR C4 a1 5), va_rf p1, .int p3]) (rest := []) dX1_examineTwo_30 me_X1_examine mi_X1_examine lk_1_51 hT9 rfl rfl (Nat.le_of_ble_eq_true rfl) ?_
    refine cM.mono h ?_
    rintro v C12 ⟨z13, rfl, hL14, h⟩
    have hT15 := cT.le (C := C4) hT8 hL14
    have hT16 := cT.le (C := C4) hT9 hL14
    show cG _ _ _ _ _ _ [va_rf z13] _
    refine ag_drop 4 ?_
    exact h
  · have h := h.1 hr10
    refine ag_null dX1_examineTwo_18 ?_
    refine ag_goto (tgt := 33) dX1_examineTwo_19 rfl ?_
    refine ag_drop 4 ?_
    exact h
set_option maxRecDepth 20000 in
set_option maxHeartbeats 4000000 in
theorem w_X1_examineTwo_33 {c : cX} {d : Nat} {C : cS} {K : Option Value → cS → Prop} (t : Nat) (v1 : Option Nat) (v2 : Option Nat) (v3 : Option Nat) (v5 : Option Nat) (s0 : Option Nat) (h : (v5 = none → (K (some (.int 0)) C)) ∧ (∀ a2 : Nat, v5 = some a2 → ((s0 = none → (K (some (.int 0)) C)) ∧ (∀ a4 : Nat, s0 = some a4 → (∃ a5 : Nat, v1 = some a5 ∧ (cT C a5 5 7 ∧ (((cI C a5 0) = 67 → (cG c eX1_examineTwo (d + 1) (cQ K) 79 [none, some (va_rf v1), some (va_rf v2), some (va_rf v3), none, none, none] [] C)) ∧ (¬ (cI C a5 0) = 67 → (cT C a2 2 4 ∧ (cT C a4 2 4 ∧ (((((cI C a2 0) ||| (cI C a4 0)) &&& (-2)) = 0 → (cG c eX1_examineTwo (d + 1) (cQ K) 79 [none, some (va_rf v1), some (va_rf v2), some (va_rf v3), none, none, none] [] C)) ∧ (¬ (((cI C a2 0) ||| (cI C a4 0)) &&& (-2)) = 0 → (cT C t 1 7 ∧ (cM c d eX1_refuse (.ref t :: [va_rf v1]) C (fun v C12 => ∃ z13 : Int32, v = some (.int z13) ∧ cle C C12 ∧ (rB z13 ∧ K (some (.int z13)) C12)))))))))))))))) : cG c eX1_examineTwo (d + 1) (cQ K) 33 [some (.ref t), some (va_rf v1), some (va_rf v2), some (va_rf v3), none, some (va_rf v5), none] [va_rf s0] C := by
  refine ag_astore (lv2 := [some (.ref t), some (va_rf v1), some (va_rf v2), some (va_rf v3), none, some (va_rf v5), some (va_rf s0)]) dX1_examineTwo_33 (Nat.le_of_ble_eq_true rfl) (by simp [am_st1, am_kill, va_rf_cat] <;> rfl) (va_rf_or _) ?_
  refine ag_aload dX1_examineTwo_35 rfl (va_rf_or _) ?_
  refine cr_ifnull (tgt := 45) dX1_examineTwo_37 rfl (fun hr1 => ?_) (fun a2 hr1 => ?_)
  · have h := h.1 hr1
    refine ag_iconst (v := 0) dX1_examineTwo_45 rfl ?_
    exact ag_ret (v := some (.int 0)) dX1_examineTwo_46 ⟨_, rfl, rB_n (Or.inl rfl)⟩ ⟨_, rfl, _, rfl, h⟩ rfl
  · have h := h.2 a2 hr1
    refine ag_aload dX1_examineTwo_40 rfl (va_rf_or _) ?_
    refine cr_ifnonnull (tgt := 47) dX1_examineTwo_42 rfl (fun a4 hr3 => ?_) (fun hr3 => ?_)
    · have h := h.2 a4 hr3
      refine ag_aload_n dX1_examineTwo_47 rfl (va_rf_or _) ?_
      obtain ⟨a5, hr6, h⟩ := h
      refine cr_stk (st' := [.ref a5]) (by rw [hr6]; rfl) ?_
      obtain ⟨hT7, h⟩ := h
      refine cr_get (v := .int (cI C a5 0)) dX1_examineTwo_48 fw_1_74 hT7 rfl ?_
      refine ag_bipush (v := 67) dX1_examineTwo_51 (by decide) ?_
      refine ag_icmp_eq (tgt := 79) dX1_examineTwo_53 rfl (fun hc8 => ?_) (fun hc8 => ?_)
      · have h := h.1 hc8
        refine ag_drop 0 ?_
        refine ag_drop 5 ?_
        refine ag_drop 6 ?_
        exact h
      · have h := h.2 hc8
        refine ag_aload dX1_examineTwo_56 rfl (va_rf_or _) ?_
        refine cr_stk (st' := [.ref a2]) (by rw [hr1]; rfl) ?_
        obtain ⟨hT9, h⟩ := h
        refine cr_get (v := .int (cI C a2 0)) dX1_examineTwo_58 fw_1_147 hT9 rfl ?_
        refine ag_aload dX1_examineTwo_61 rfl (va_rf_or _) ?_
        refine cr_stk (st' := [.ref a4, .int (cI C a2 0)]) (by rw [hr3]; rfl) ?_
        obtain ⟨hT10, h⟩ := h
        refine cr_get (v := .int (cI C a4 0)) dX1_examineTwo_63 fw_1_147 hT10 rfl ?_
        refine ag_ior dX1_examineTwo_66 rfl ?_
        refine ag_bipush (v := (-2)) dX1_examineTwo_67 (by decide) ?_
        refine ag_iand dX1_examineTwo_69 rfl ?_
        refine ag_if_eq (tgt := 79) dX1_examineTwo_70 rfl (fun hc11 => ?_) (fun hc11 => ?_)
        · have h := h.1 hc11
          refine ag_drop 0 ?_
          refine ag_drop 5 ?_
          refine ag_drop 6 ?_
          exact h
        · have h := h.2 hc11
          refine ag_aload_n dX1_examineTwo_73 rfl (Or.inr ⟨_, rfl⟩) ?_
          refine ag_aload_n dX1_examineTwo_74 rfl (va_rf_or _) ?_
          obtain ⟨hT15, h⟩ := h
          refine cr_callV (as := [va_rf v1]) (rest := []) dX1_examineTwo_75 me_X1_refuse mi_X1_refuse lk_1_118 hT15 rfl rfl (Nat.le_of_ble_eq_true rfl) ?_
          refine cM.mono h ?_
          rintro v C12 ⟨z13, rfl, hL14, h⟩
          have hT16 := cT.le (C := C) hT7 hL14
          have hT17 := cT.le (C := C) hT9 hL14
          have hT18 := cT.le (C := C) hT10 hL14
          have hT19 := cT.le (C := C) hT15 hL14
          show cG _ _ _ _ _ _ [.int z13] _
          obtain ⟨hb20, h⟩ := h
          exact ag_ret (v := some (.int z13)) dX1_examineTwo_78 ⟨_, rfl, rB_n hb20⟩ ⟨_, rfl, _, rfl, h⟩ rfl
    · have h := h.1 hr3
      refine ag_iconst (v := 0) dX1_examineTwo_45 rfl ?_
      exact ag_ret (v := some (.int 0)) dX1_examineTwo_46 ⟨_, rfl, rB_n (Or.inl rfl)⟩ ⟨_, rfl, _, rfl, h⟩ rfl
set_option maxRecDepth 20000 in
set_option maxHeartbeats 4000000 in
theorem w_X1_examineTwo_79 {c : cX} {d : Nat} {C : cS} {K : Option Value → cS → Prop} (v1 : Option Nat) (v2 : Option Nat) (v3 : Option Nat) (h : ∃ a1 : Nat, v1 = some a1 ∧ (cT C a1 5 7 ∧ ((¬ (cI C a1 0) = 67 → ((¬ (cI C a1 0) = 60 → (∃ a6 : Nat, v3 = some a6 ∧ (cT C a6 2 4 ∧ (cM c d eX2_assign (.ref a6 :: [.int 1, .int (-1), va_rf v2]) C (fun v C8 => v = none ∧ cle C C8 ∧ (K (some (.int 1)) C8)))))) ∧ ((cI C a1 0) = 60 → (∃ a14 : Nat, v3 = some a14 ∧ (cT C a14 2 4 ∧ (cM c d eX2_assign (.ref a14 :: [.int 6, .int (-1), va_rf v2]) C (fun v C16 => v = none ∧ cle C C16 ∧ (K (some (.int 1)) C16)))))))) ∧ ((cI C a1 0) = 67 → (∃ a22 : Nat, v3 = some a22 ∧ (cT C a22 2 4 ∧ (cM c d eX2_assign (.ref a22 :: [.int 16, .int (-1), va_rf v2]) C (fun v C24 => v = none ∧ cle C C24 ∧ (K (some (.int 1)) C24))))))))) : cG c eX1_examineTwo (d + 1) (cQ K) 79 [none, some (va_rf v1), some (va_rf v2), some (va_rf v3), none, none, none] [] C := by
  refine ag_aload_n dX1_examineTwo_79 rfl (va_rf_or _) ?_
  refine ag_aload_n dX1_examineTwo_80 rfl (va_rf_or _) ?_
  obtain ⟨a1, hr2, h⟩ := h
  refine cr_stk (st' := [.ref a1, va_rf v3]) (by rw [hr2]; rfl) ?_
  obtain ⟨hT3, h⟩ := h
  refine cr_get (v := .int (cI C a1 0)) dX1_examineTwo_81 fw_1_74 hT3 rfl ?_
  refine ag_bipush (v := 67) dX1_examineTwo_84 (by decide) ?_
  refine ag_icmp_ne (tgt := 94) dX1_examineTwo_86 rfl (fun hc4 => ?_) (fun hc4 => ?_)
  · have h := h.1 hc4
    refine ag_aload_n dX1_examineTwo_94 rfl (va_rf_or _) ?_
    refine cr_stk (st' := [.ref a1, va_rf v3]) (by rw [hr2]; rfl) ?_
    refine cr_get (v := .int (cI C a1 0)) dX1_examineTwo_95 fw_1_74 hT3 rfl ?_
    refine ag_bipush (v := 60) dX1_examineTwo_98 (by decide) ?_
    refine ag_icmp_ne (tgt := 108) dX1_examineTwo_100 rfl (fun hc5 => ?_) (fun hc5 => ?_)
    · have h := h.1 hc5
      refine ag_iconst (v := 1) dX1_examineTwo_108 rfl ?_
      refine ag_iconst (v := (-1)) dX1_examineTwo_109 rfl ?_
      refine ag_aload_n dX1_examineTwo_110 rfl (va_rf_or _) ?_
      obtain ⟨a6, hr7, h⟩ := h
      refine cr_stk (st' := [va_rf v2, .int (-1), .int 1, .ref a6]) (by rw [hr7]; rfl) ?_
      obtain ⟨hT11, h⟩ := h
      refine cr_callV (as := [.int 1, .int (-1), va_rf v2]) (rest := []) dX1_examineTwo_111 me_X2_assign mi_X2_assign lk_1_114 hT11 rfl rfl (Nat.le_of_ble_eq_true rfl) ?_
      refine cM.mono h ?_
      rintro v C8 ⟨rfl, hL10, h⟩
      have hT12 := cT.le (C := C) hT3 hL10
      have hT13 := cT.le (C := C) hT11 hL10
      show cG _ _ _ _ _ _ [] _
      refine ag_iconst (v := 1) dX1_examineTwo_114 rfl ?_
      exact ag_ret (v := some (.int 1)) dX1_examineTwo_115 ⟨_, rfl, rB_n (Or.inr rfl)⟩ ⟨_, rfl, _, rfl, h⟩ rfl
    · have h := h.2 hc5
      refine ag_bipush (v := 6) dX1_examineTwo_103 (by decide) ?_
      refine ag_goto (tgt := 109) dX1_examineTwo_105 rfl ?_
      refine ag_iconst (v := (-1)) dX1_examineTwo_109 rfl ?_
      refine ag_aload_n dX1_examineTwo_110 rfl (va_rf_or _) ?_
      obtain ⟨a14, hr15, h⟩ := h
      refine cr_stk (st' := [va_rf v2, .int (-1), .int 6, .ref a14]) (by rw [hr15]; rfl) ?_
      obtain ⟨hT19, h⟩ := h
      refine cr_callV (as := [.int 6, .int (-1), va_rf v2]) (rest := []) dX1_examineTwo_111 me_X2_assign mi_X2_assign lk_1_114 hT19 rfl rfl (Nat.le_of_ble_eq_true rfl) ?_
      refine cM.mono h ?_
      rintro v C16 ⟨rfl, hL18, h⟩
      have hT20 := cT.le (C := C) hT3 hL18
      have hT21 := cT.le (C := C) hT19 hL18
      show cG _ _ _ _ _ _ [] _
      refine ag_iconst (v := 1) dX1_examineTwo_114 rfl ?_
      exact ag_ret (v := some (.int 1)) dX1_examineTwo_115 ⟨_, rfl, rB_n (Or.inr rfl)⟩ ⟨_, rfl, _, rfl, h⟩ rfl
  · have h := h.2 hc4
    refine ag_bipush (v := 16) dX1_examineTwo_89 (by decide) ?_
    refine ag_goto (tgt := 109) dX1_examineTwo_91 rfl ?_
    refine ag_iconst (v := (-1)) dX1_examineTwo_109 rfl ?_
    refine ag_aload_n dX1_examineTwo_110 rfl (va_rf_or _) ?_
    obtain ⟨a22, hr23, h⟩ := h
    refine cr_stk (st' := [va_rf v2, .int (-1), .int 16, .ref a22]) (by rw [hr23]; rfl) ?_
    obtain ⟨hT27, h⟩ := h
    refine cr_callV (as := [.int 16, .int (-1), va_rf v2]) (rest := []) dX1_examineTwo_111 me_X2_assign mi_X2_assign lk_1_114 hT27 rfl rfl (Nat.le_of_ble_eq_true rfl) ?_
    refine cM.mono h ?_
    rintro v C24 ⟨rfl, hL26, h⟩
    have hT28 := cT.le (C := C) hT3 hL26
    have hT29 := cT.le (C := C) hT27 hL26
    show cG _ _ _ _ _ _ [] _
    refine ag_iconst (v := 1) dX1_examineTwo_114 rfl ?_
    exact ag_ret (v := some (.int 1)) dX1_examineTwo_115 ⟨_, rfl, rB_n (Or.inr rfl)⟩ ⟨_, rfl, _, rfl, h⟩ rfl
