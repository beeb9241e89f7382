theorem dX4_evaluateAll_0 : decode cX4_evaluateAll 0 = .ok (.aload_n 0, 1) := by decide +kernel
theorem dX4_evaluateAll_1 : decode cX4_evaluateAll 1 = .ok (.getfield 25, 3) := by decide +kernel
theorem dX4_evaluateAll_4 : decode cX4_evaluateAll 4 = .ok (.iconst 0, 1) := by decide +kernel
theorem dX4_evaluateAll_5 : decode cX4_evaluateAll 5 = .ok (.aaload, 1) := by decide +kernel
theorem dX4_evaluateAll_6 : decode cX4_evaluateAll 6 = .ok (.iconst 0, 1) := by decide +kernel
theorem dX4_evaluateAll_7 : decode cX4_evaluateAll 7 = .ok (.iload_n 2, 1) := by decide +kernel
theorem dX4_evaluateAll_8 : decode cX4_evaluateAll 8 = .ok (.iastore, 1) := by decide +kernel
theorem dX4_evaluateAll_9 : decode cX4_evaluateAll 9 = .ok (.aload_n 0, 1) := by decide +kernel
theorem dX4_evaluateAll_10 : decode cX4_evaluateAll 10 = .ok (.getfield 25, 3) := by decide +kernel
theorem dX4_evaluateAll_13 : decode cX4_evaluateAll 13 = .ok (.iconst 0, 1) := by decide +kernel
theorem dX4_evaluateAll_14 : decode cX4_evaluateAll 14 = .ok (.aaload, 1) := by decide +kernel
theorem dX4_evaluateAll_15 : decode cX4_evaluateAll 15 = .ok (.iconst 1, 1) := by decide +kernel
theorem dX4_evaluateAll_16 : decode cX4_evaluateAll 16 = .ok (.iload_n 3, 1) := by decide +kernel
theorem dX4_evaluateAll_17 : decode cX4_evaluateAll 17 = .ok (.iastore, 1) := by decide +kernel
theorem dX4_evaluateAll_18 : decode cX4_evaluateAll 18 = .ok (.aload_n 0, 1) := by decide +kernel
theorem dX4_evaluateAll_19 : decode cX4_evaluateAll 19 = .ok (.aload_n 1, 1) := by decide +kernel
theorem dX4_evaluateAll_20 : decode cX4_evaluateAll 20 = .ok (.iconst 0, 1) := by decide +kernel
theorem dX4_evaluateAll_21 : decode cX4_evaluateAll 21 = .ok (.iconst 0, 1) := by decide +kernel
theorem dX4_evaluateAll_22 : decode cX4_evaluateAll 22 = .ok (.invokevirtual 34, 3) := by decide +kernel
theorem dX4_evaluateAll_25 : decode cX4_evaluateAll 25 = .ok (.istore 4, 2) := by decide +kernel
theorem dX4_evaluateAll_27 : decode cX4_evaluateAll 27 = .ok (.iload 4, 2) := by decide +kernel
theorem dX4_evaluateAll_29 : decode cX4_evaluateAll 29 = .ok (.iconst (-1), 1) := by decide +kernel
theorem dX4_evaluateAll_30 : decode cX4_evaluateAll 30 = .ok (.if_icmp .eq 8, 3) := by decide +kernel
theorem dX4_evaluateAll_33 : decode cX4_evaluateAll 33 = .ok (.aload_n 0, 1) := by decide +kernel
theorem dX4_evaluateAll_34 : decode cX4_evaluateAll 34 = .ok (.iconst 1, 1) := by decide +kernel
theorem dX4_evaluateAll_35 : decode cX4_evaluateAll 35 = .ok (.putfield 31, 3) := by decide +kernel
theorem dX4_evaluateAll_38 : decode cX4_evaluateAll 38 = .ok (.iload 4, 2) := by decide +kernel
theorem dX4_evaluateAll_40 : decode cX4_evaluateAll 40 = .ok (.ireturn, 1) := by decide +kernel
set_option maxRecDepth 20000 in
set_option maxHeartbeats 4000000 in
theorem w_X4_evaluateAll {c : cX} {d : Nat} {C : cS} {K : Option Value → cS → Prop} (t : Nat) (p0 : Option Nat) (p1 : Int32) (p2 : Int32) (h : cT C t 4 6 ∧ (∃ a2 : Nat, (cR C t 3) = some a2 ∧ (∃ n5 : Nat, cT C a2 24 n5 ∧ (∃ j6 : Nat, am_ix 0 j6 n5 ∧ (∃ a8 : Nat, (cR C a2 j6) = some a8 ∧ (∃ n11 : Nat, cT C a8 20 n11 ∧ (∃ j12 : Nat, am_ix 0 j12 n11 ∧ (∃ j14 : Nat, am_ix 0 j14 n5 ∧ (∃ a16 : Nat, (cR C a2 j14) = some a16 ∧ (∃ n19 : Nat, cT C a16 20 n19 ∧ (∃ j20 : Nat, am_ix 1 j20 n19 ∧ (cM c d eX4_evaluate (.ref t :: [va_rf p0, .int 0, .int 0]) (csi (csi C a8 j12 p1) a16 j20 p2) (fun v C22 => ∃ z23 : Int32, v = some (.int z23) ∧ cle (csi (csi C a8 j12 p1) a16 j20 p2) C22 ∧ ((z23 = (-1) → (K (some (.int z23)) C22)) ∧ (¬ z23 = (-1) → (K (some (.int z23)) (csi C22 t 5 1))))))))))))))))) : cM c (d + 1) eX4_evaluateAll [.ref t, va_rf p0, .int p1, .int p2] C K := by
  refine cM.of2 (lv := [some (.ref t), some (va_rf p0), some (.int p1), some (.int p2), none]) (by decide) (by simp only [am_sl_i, am_sl_r, am_sl_l, am_sl_o, am_sl_n]; exact Nat.le_of_ble_eq_true rfl) (by simp only [am_en, am_sl_i, am_sl_r, am_sl_l, am_sl_o, am_sl_n]; rfl) ?_
  refine ag_aload_n dX4_evaluateAll_0 rfl (Or.inr ⟨_, rfl⟩) ?_
  obtain ⟨hT1, h⟩ := h
  refine cr_get (v := va_rf (cR C t 3)) dX4_evaluateAll_1 fw_4_25 hT1 rfl ?_
  refine ag_iconst (v := 0) dX4_evaluateAll_4 rfl ?_
  obtain ⟨a2, hr3, h⟩ := h
  refine cr_stk (st' := [.int 0, .ref a2]) (by rw [hr3]; rfl) ?_
  obtain ⟨n5, hT4, h⟩ := h
  obtain ⟨j6, hj7, h⟩ := h
  refine cr_al (r := (cR C a2 j6)) dX4_evaluateAll_5 hT4 (by decide) hj7 rfl ?_
  refine ag_iconst (v := 0) dX4_evaluateAll_6 rfl ?_
  refine ag_iload_n dX4_evaluateAll_7 rfl ?_
  obtain ⟨a8, hr9, h⟩ := h
  refine cr_stk (st' := [.int p1, .int 0, .ref a8]) (by rw [hr9]; rfl) ?_
  obtain ⟨n11, hT10, h⟩ := h
  obtain ⟨j12, hj13, h⟩ := h
  refine cr_is (C2 := (csi C a8 j12 p1)) dX4_evaluateAll_8 hT10 hj13 rfl ?_
  refine ag_aload_n dX4_evaluateAll_9 rfl (Or.inr ⟨_, rfl⟩) ?_
  refine cr_get (v := va_rf (cR C t 3)) dX4_evaluateAll_10 fw_4_25 hT1 rfl ?_
  refine ag_iconst (v := 0) dX4_evaluateAll_13 rfl ?_
  refine cr_stk (st' := [.int 0, .ref a2]) (by rw [hr3]; rfl) ?_
  obtain ⟨j14, hj15, h⟩ := h
  refine cr_al (r := (cR C a2 j14)) dX4_evaluateAll_14 hT4 (by decide) hj15 rfl ?_
  refine ag_iconst (v := 1) dX4_evaluateAll_15 rfl ?_
  refine ag_iload_n dX4_evaluateAll_16 rfl ?_
  obtain ⟨a16, hr17, h⟩ := h
  refine cr_stk (st' := [.int p2, .int 1, .ref a16]) (by rw [hr17]; rfl) ?_
  obtain ⟨n19, hT18, h⟩ := h
  obtain ⟨j20, hj21, h⟩ := h
  refine cr_is (C2 := (csi (csi C a8 j12 p1) a16 j20 p2)) dX4_evaluateAll_17 hT18 hj21 rfl ?_
  refine ag_aload_n dX4_evaluateAll_18 rfl (Or.inr ⟨_, rfl⟩) ?_
  refine ag_aload_n dX4_evaluateAll_19 rfl (va_rf_or _) ?_
  refine ag_iconst (v := 0) dX4_evaluateAll_20 rfl ?_
  refine ag_iconst (v := 0) dX4_evaluateAll_21 rfl ?_
  refine cr_callV (as := [va_rf p0, .int 0, .int 0]) (rest := []) dX4_evaluateAll_22 me_X4_evaluate mi_X4_evaluate lk_4_34 hT1 rfl rfl (Nat.le_of_ble_eq_true rfl) ?_
  refine cM.mono h ?_
  rintro v C22 ⟨z23, rfl, hL24, h⟩
  have hT25 := cT.le (C := (csi (csi C a8 j12 p1) a16 j20 p2)) hT1 hL24
  have hT26 := cT.le (C := (csi (csi C a8 j12 p1) a16 j20 p2)) hT4 hL24
  have hT27 := cT.le (C := (csi (csi C a8 j12 p1) a16 j20 p2)) hT10 hL24
  have hT28 := cT.le (C := (csi (csi C a8 j12 p1) a16 j20 p2)) hT18 hL24
  show cG _ _ _ _ _ _ [.int z23] _
  refine ag_istore (lv2 := [some (.ref t), some (va_rf p0), some (.int p1), some (.int p2), some (.int z23)]) dX4_evaluateAll_25 (Nat.le_of_ble_eq_true rfl) rfl ?_
  refine ag_iload dX4_evaluateAll_27 rfl ?_
  refine ag_iconst (v := (-1)) dX4_evaluateAll_29 rfl ?_
  refine ag_icmp_eq (tgt := 38) dX4_evaluateAll_30 rfl (fun hc29 => ?_) (fun hc29 => ?_)
  · have h := h.1 hc29
    refine ag_iload dX4_evaluateAll_38 rfl ?_
    exact ag_ret (v := some (.int z23)) dX4_evaluateAll_40 ⟨_, rfl, rfl⟩ ⟨_, rfl, _, rfl, h⟩ rfl
  · have h := h.2 hc29
    refine ag_aload_n dX4_evaluateAll_33 rfl (Or.inr ⟨_, rfl⟩) ?_
    refine ag_iconst (v := 1) dX4_evaluateAll_34 rfl ?_
    refine cr_pi (C2 := (csi C22 t 5 1)) dX4_evaluateAll_35 pw_4_31 rfl hT25 (fun _ => ⟨rfl, rfl⟩) rfl ?_
    refine ag_iload dX4_evaluateAll_38 rfl ?_
    exact ag_ret (v := some (.int z23)) dX4_evaluateAll_40 ⟨_, rfl, rfl⟩ ⟨_, rfl, _, rfl, h⟩ rfl
theorem dX4_evaluate_0 : decode cX4_evaluate 0 = .ok (.aload_n 1, 1) := by decide +kernel
theorem dX4_evaluate_1 : decode cX4_evaluate 1 = .ok (.ifnull 20, 3) := by decide +kernel
theorem dX4_evaluate_4 : decode cX4_evaluate 4 = .ok (.iload_n 3, 1) := by decide +kernel
theorem dX4_evaluate_5 : decode cX4_evaluate 5 = .ok (.bipush 40, 2) := by decide +kernel
theorem dX4_evaluate_7 : decode cX4_evaluate 7 = .ok (.if_icmp .gt 14, 3) := by decide +kernel
theorem dX4_evaluate_10 : decode cX4_evaluate 10 = .ok (.aload_n 0, 1) := by decide +kernel
theorem dX4_evaluate_11 : decode cX4_evaluate 11 = .ok (.getfield 28, 3) := by decide +kernel
theorem dX4_evaluate_14 : decode cX4_evaluate 14 = .ok (.aload_n 0, 1) := by decide +kernel
theorem dX4_evaluate_15 : decode cX4_evaluate 15 = .ok (.getfield 19, 3) := by decide +kernel
theorem dX4_evaluate_18 : decode cX4_evaluate 18 = .ok (.if_icmp .lt 5, 3) := by decide +kernel
theorem dX4_evaluate_21 : decode cX4_evaluate 21 = .ok (.iconst (-1), 1) := by decide +kernel
theorem dX4_evaluate_22 : decode cX4_evaluate 22 = .ok (.ireturn, 1) := by decide +kernel
theorem dX4_evaluate_23 : decode cX4_evaluate 23 = .ok (.aload_n 0, 1) := by decide +kernel
theorem dX4_evaluate_24 : decode cX4_evaluate 24 = .ok (.dup, 1) := by decide +kernel
theorem dX4_evaluate_25 : decode cX4_evaluate 25 = .ok (.getfield 28, 3) := by decide +kernel
theorem dX4_evaluate_28 : decode cX4_evaluate 28 = .ok (.iconst 1, 1) := by decide +kernel
theorem dX4_evaluate_29 : decode cX4_evaluate 29 = .ok (.iadd, 1) := by decide +kernel
theorem dX4_evaluate_30 : decode cX4_evaluate 30 = .ok (.putfield 28, 3) := by decide +kernel
theorem dX4_evaluate_33 : decode cX4_evaluate 33 = .ok (.aload_n 1, 1) := by decide +kernel
theorem dX4_evaluate_34 : decode cX4_evaluate 34 = .ok (.getfield 38, 3) := by decide +kernel
theorem dX4_evaluate_37 : decode cX4_evaluate 37 = .ok (.ifnonnull 10, 3) := by decide +kernel
theorem dX4_evaluate_40 : decode cX4_evaluate 40 = .ok (.aload_n 0, 1) := by decide +kernel
theorem dX4_evaluate_41 : decode cX4_evaluate 41 = .ok (.aload_n 1, 1) := by decide +kernel
theorem dX4_evaluate_42 : decode cX4_evaluate 42 = .ok (.iload_n 2, 1) := by decide +kernel
theorem dX4_evaluate_43 : decode cX4_evaluate 43 = .ok (.invokevirtual 44, 3) := by decide +kernel
theorem dX4_evaluate_46 : decode cX4_evaluate 46 = .ok (.ireturn, 1) := by decide +kernel
theorem dX4_evaluate_47 : decode cX4_evaluate 47 = .ok (.aload_n 0, 1) := by decide +kernel
theorem dX4_evaluate_48 : decode cX4_evaluate 48 = .ok (.aload_n 1, 1) := by decide +kernel
theorem dX4_evaluate_49 : decode cX4_evaluate 49 = .ok (.getfield 38, 3) := by decide +kernel
theorem dX4_evaluate_52 : decode cX4_evaluate 52 = .ok (.iload_n 2, 1) := by decide +kernel
theorem dX4_evaluate_53 : decode cX4_evaluate 53 = .ok (.iload_n 3, 1) := by decide +kernel
theorem dX4_evaluate_54 : decode cX4_evaluate 54 = .ok (.iconst 1, 1) := by decide +kernel
theorem dX4_evaluate_55 : decode cX4_evaluate 55 = .ok (.iadd, 1) := by decide +kernel
theorem dX4_evaluate_56 : decode cX4_evaluate 56 = .ok (.invokevirtual 34, 3) := by decide +kernel
theorem dX4_evaluate_59 : decode cX4_evaluate 59 = .ok (.istore 4, 2) := by decide +kernel
theorem dX4_evaluate_61 : decode cX4_evaluate 61 = .ok (.iload 4, 2) := by decide +kernel
theorem dX4_evaluate_63 : decode cX4_evaluate 63 = .ok (.iconst (-1), 1) := by decide +kernel
theorem dX4_evaluate_64 : decode cX4_evaluate 64 = .ok (.if_icmp .ne 5, 3) := by decide +kernel
theorem dX4_evaluate_67 : decode cX4_evaluate 67 = .ok (.iconst (-1), 1) := by decide +kernel
theorem dX4_evaluate_68 : decode cX4_evaluate 68 = .ok (.ireturn, 1) := by decide +kernel
theorem dX4_evaluate_69 : decode cX4_evaluate 69 = .ok (.aload_n 1, 1) := by decide +kernel
theorem dX4_evaluate_70 : decode cX4_evaluate 70 = .ok (.getfield 48, 3) := by decide +kernel
theorem dX4_evaluate_73 : decode cX4_evaluate 73 = .ok (.lookupswitch 250 #[(38, 125), (43, 227), (45, 227), (58, 172), (60, 227), (63, 99), (67, 227), (71, 203), (72, 203), (73, 203), (124, 148)], 99) := by decide +kernel
theorem dX4_evaluate_172 : decode cX4_evaluate 172 = .ok (.aload_n 0, 1) := by decide +kernel
theorem dX4_evaluate_173 : decode cX4_evaluate 173 = .ok (.iload 4, 2) := by decide +kernel
theorem dX4_evaluate_175 : decode cX4_evaluate 175 = .ok (.iconst 1, 1) := by decide +kernel
theorem dX4_evaluate_176 : decode cX4_evaluate 176 = .ok (.if_icmp .ne 10, 3) := by decide +kernel
theorem dX4_evaluate_179 : decode cX4_evaluate 179 = .ok (.aload_n 1, 1) := by decide +kernel
theorem dX4_evaluate_180 : decode cX4_evaluate 180 = .ok (.getfield 51, 3) := by decide +kernel
theorem dX4_evaluate_183 : decode cX4_evaluate 183 = .ok (.goto 7, 3) := by decide +kernel
theorem dX4_evaluate_186 : decode cX4_evaluate 186 = .ok (.aload_n 1, 1) := by decide +kernel
theorem dX4_evaluate_187 : decode cX4_evaluate 187 = .ok (.getfield 54, 3) := by decide +kernel
theorem dX4_evaluate_190 : decode cX4_evaluate 190 = .ok (.iload_n 2, 1) := by decide +kernel
theorem dX4_evaluate_191 : decode cX4_evaluate 191 = .ok (.iload_n 3, 1) := by decide +kernel
theorem dX4_evaluate_192 : decode cX4_evaluate 192 = .ok (.iconst 1, 1) := by decide +kernel
theorem dX4_evaluate_193 : decode cX4_evaluate 193 = .ok (.iadd, 1) := by decide +kernel
theorem dX4_evaluate_194 : decode cX4_evaluate 194 = .ok (.invokevirtual 34, 3) := by decide +kernel
theorem dX4_evaluate_197 : decode cX4_evaluate 197 = .ok (.ireturn, 1) := by decide +kernel
theorem dX4_evaluate_198 : decode cX4_evaluate 198 = .ok (.iload 4, 2) := by decide +kernel
theorem dX4_evaluate_200 : decode cX4_evaluate 200 = .ok (.iconst 1, 1) := by decide +kernel
theorem dX4_evaluate_201 : decode cX4_evaluate 201 = .ok (.if_icmp .ne 7, 3) := by decide +kernel
theorem dX4_evaluate_204 : decode cX4_evaluate 204 = .ok (.iconst 1, 1) := by decide +kernel
theorem dX4_evaluate_205 : decode cX4_evaluate 205 = .ok (.goto 15, 3) := by decide +kernel
theorem dX4_evaluate_208 : decode cX4_evaluate 208 = .ok (.aload_n 0, 1) := by decide +kernel
theorem dX4_evaluate_209 : decode cX4_evaluate 209 = .ok (.aload_n 1, 1) := by decide +kernel
theorem dX4_evaluate_210 : decode cX4_evaluate 210 = .ok (.getfield 54, 3) := by decide +kernel
theorem dX4_evaluate_213 : decode cX4_evaluate 213 = .ok (.iload_n 2, 1) := by decide +kernel
theorem dX4_evaluate_214 : decode cX4_evaluate 214 = .ok (.iload_n 3, 1) := by decide +kernel
theorem dX4_evaluate_215 : decode cX4_evaluate 215 = .ok (.iconst 1, 1) := by decide +kernel
theorem dX4_evaluate_216 : decode cX4_evaluate 216 = .ok (.iadd, 1) := by decide +kernel
theorem dX4_evaluate_217 : decode cX4_evaluate 217 = .ok (.invokevirtual 34, 3) := by decide +kernel
theorem dX4_evaluate_220 : decode cX4_evaluate 220 = .ok (.ireturn, 1) := by decide +kernel
theorem dX4_evaluate_221 : decode cX4_evaluate 221 = .ok (.iload 4, 2) := by decide +kernel
theorem dX4_evaluate_223 : decode cX4_evaluate 223 = .ok (.iconst 1, 1) := by decide +kernel
theorem dX4_evaluate_224 : decode cX4_evaluate 224 = .ok (.if_icmp .ne 18, 3) := by decide +kernel
theorem dX4_evaluate_227 : decode cX4_evaluate 227 = .ok (.aload_n 0, 1) := by decide +kernel
theorem dX4_evaluate_228 : decode cX4_evaluate 228 = .ok (.aload_n 1, 1) := by decide +kernel
theorem dX4_evaluate_229 : decode cX4_evaluate 229 = .ok (.getfield 54, 3) := by decide +kernel
theorem dX4_evaluate_232 : decode cX4_evaluate 232 = .ok (.iload_n 2, 1) := by decide +kernel
theorem dX4_evaluate_233 : decode cX4_evaluate 233 = .ok (.iload_n 3, 1) := by decide +kernel
theorem dX4_evaluate_234 : decode cX4_evaluate 234 = .ok (.iconst 1, 1) := by decide +kernel
theorem dX4_evaluate_235 : decode cX4_evaluate 235 = .ok (.iadd, 1) := by decide +kernel
theorem dX4_evaluate_236 : decode cX4_evaluate 236 = .ok (.invokevirtual 34, 3) := by decide +kernel
theorem dX4_evaluate_239 : decode cX4_evaluate 239 = .ok (.goto 5, 3) := by decide +kernel
theorem dX4_evaluate_242 : decode cX4_evaluate 242 = .ok (.iload 4, 2) := by decide +kernel
theorem dX4_evaluate_244 : decode cX4_evaluate 244 = .ok (.ireturn, 1) := by decide +kernel
theorem dX4_evaluate_245 : decode cX4_evaluate 245 = .ok (.aload_n 0, 1) := by decide +kernel
theorem dX4_evaluate_246 : decode cX4_evaluate 246 = .ok (.iload_n 2, 1) := by decide +kernel
theorem dX4_evaluate_247 : decode cX4_evaluate 247 = .ok (.aload_n 1, 1) := by decide +kernel
theorem dX4_evaluate_248 : decode cX4_evaluate 248 = .ok (.getfield 57, 3) := by decide +kernel
theorem dX4_evaluate_251 : decode cX4_evaluate 251 = .ok (.iload 4, 2) := by decide +kernel
theorem dX4_evaluate_253 : decode cX4_evaluate 253 = .ok (.invokevirtual 60, 3) := by decide +kernel
theorem dX4_evaluate_256 : decode cX4_evaluate 256 = .ok (.ifCond .eq 18, 3) := by decide +kernel
theorem dX4_evaluate_259 : decode cX4_evaluate 259 = .ok (.aload_n 0, 1) := by decide +kernel
theorem dX4_evaluate_260 : decode cX4_evaluate 260 = .ok (.aload_n 1, 1) := by decide +kernel
theorem dX4_evaluate_261 : decode cX4_evaluate 261 = .ok (.getfield 54, 3) := by decide +kernel
theorem dX4_evaluate_264 : decode cX4_evaluate 264 = .ok (.iload_n 2, 1) := by decide +kernel
theorem dX4_evaluate_265 : decode cX4_evaluate 265 = .ok (.iload_n 3, 1) := by decide +kernel
theorem dX4_evaluate_266 : decode cX4_evaluate 266 = .ok (.iconst 1, 1) := by decide +kernel
theorem dX4_evaluate_267 : decode cX4_evaluate 267 = .ok (.iadd, 1) := by decide +kernel
theorem dX4_evaluate_268 : decode cX4_evaluate 268 = .ok (.invokevirtual 34, 3) := by decide +kernel
theorem dX4_evaluate_271 : decode cX4_evaluate 271 = .ok (.goto 4, 3) := by decide +kernel
theorem dX4_evaluate_274 : decode cX4_evaluate 274 = .ok (.iconst (-1), 1) := by decide +kernel
theorem dX4_evaluate_275 : decode cX4_evaluate 275 = .ok (.ireturn, 1) := by decide +kernel
theorem dX4_evaluate_276 : decode cX4_evaluate 276 = .ok (.aload_n 0, 1) := by decide +kernel
theorem dX4_evaluate_277 : decode cX4_evaluate 277 = .ok (.aload_n 0, 1) := by decide +kernel
theorem dX4_evaluate_278 : decode cX4_evaluate 278 = .ok (.getfield 15, 3) := by decide +kernel
theorem dX4_evaluate_281 : decode cX4_evaluate 281 = .ok (.aload_n 1, 1) := by decide +kernel
theorem dX4_evaluate_282 : decode cX4_evaluate 282 = .ok (.getfield 48, 3) := by decide +kernel
theorem dX4_evaluate_285 : decode cX4_evaluate 285 = .ok (.invokestatic 64, 3) := by decide +kernel
theorem dX4_evaluate_288 : decode cX4_evaluate 288 = .ok (.iload 4, 2) := by decide +kernel
theorem dX4_evaluate_290 : decode cX4_evaluate 290 = .ok (.iload_n 2, 1) := by decide +kernel
theorem dX4_evaluate_291 : decode cX4_evaluate 291 = .ok (.iconst 1, 1) := by decide +kernel
theorem dX4_evaluate_292 : decode cX4_evaluate 292 = .ok (.iadd, 1) := by decide +kernel
theorem dX4_evaluate_293 : decode cX4_evaluate 293 = .ok (.iload_n 3, 1) := by decide +kernel
theorem dX4_evaluate_294 : decode cX4_evaluate 294 = .ok (.iconst 1, 1) := by decide +kernel
theorem dX4_evaluate_295 : decode cX4_evaluate 295 = .ok (.iadd, 1) := by decide +kernel
theorem dX4_evaluate_296 : decode cX4_evaluate 296 = .ok (.invokevirtual 68, 3) := by decide +kernel
theorem dX4_evaluate_299 : decode cX4_evaluate 299 = .ok (.ireturn, 1) := by decide +kernel
theorem dX4_evaluate_300 : decode cX4_evaluate 300 = .ok (.aload_n 0, 1) := by decide +kernel
theorem dX4_evaluate_301 : decode cX4_evaluate 301 = .ok (.aload_n 1, 1) := by decide +kernel
theorem dX4_evaluate_302 : decode cX4_evaluate 302 = .ok (.getfield 48, 3) := by decide +kernel
theorem dX4_evaluate_305 : decode cX4_evaluate 305 = .ok (.iload 4, 2) := by decide +kernel
theorem dX4_evaluate_307 : decode cX4_evaluate 307 = .ok (.aload_n 0, 1) := by decide +kernel
theorem dX4_evaluate_308 : decode cX4_evaluate 308 = .ok (.aload_n 1, 1) := by decide +kernel
theorem dX4_evaluate_309 : decode cX4_evaluate 309 = .ok (.getfield 54, 3) := by decide +kernel
theorem dX4_evaluate_312 : decode cX4_evaluate 312 = .ok (.iload_n 2, 1) := by decide +kernel
theorem dX4_evaluate_313 : decode cX4_evaluate 313 = .ok (.iload_n 3, 1) := by decide +kernel
theorem dX4_evaluate_314 : decode cX4_evaluate 314 = .ok (.iconst 1, 1) := by decide +kernel
theorem dX4_evaluate_315 : decode cX4_evaluate 315 = .ok (.iadd, 1) := by decide +kernel
theorem dX4_evaluate_316 : decode cX4_evaluate 316 = .ok (.invokevirtual 34, 3) := by decide +kernel
theorem dX4_evaluate_319 : decode cX4_evaluate 319 = .ok (.invokevirtual 72, 3) := by decide +kernel
theorem dX4_evaluate_322 : decode cX4_evaluate 322 = .ok (.ireturn, 1) := by decide +kernel
theorem dX4_evaluate_323 : decode cX4_evaluate 323 = .ok (.aload_n 0, 1) := by decide +kernel
theorem dX4_evaluate_324 : decode cX4_evaluate 324 = .ok (.aload_n 1, 1) := by decide +kernel
theorem dX4_evaluate_325 : decode cX4_evaluate 325 = .ok (.getfield 48, 3) := by decide +kernel
theorem dX4_evaluate_328 : decode cX4_evaluate 328 = .ok (.iload 4, 2) := by decide +kernel
theorem dX4_evaluate_330 : decode cX4_evaluate 330 = .ok (.invokevirtual 76, 3) := by decide +kernel
theorem dX4_evaluate_333 : decode cX4_evaluate 333 = .ok (.ireturn, 1) := by decide +kernel
set_option maxRecDepth 20000 in
set_option maxHeartbeats 4000000 in
theorem w_X4_evaluate {c : cX} {d : Nat} {C : cS} {K : Option Value → cS → Prop} (t : Nat) (p0 : Option Nat) (p1 : Int32) (p2 : Int32) (h : (p0 = none → (K (some (.int (-1))) C)) ∧ (∀ a2 : Nat, p0 = some a2 → ((40 < p2 → (K (some (.int (-1))) C)) ∧ (¬ 40 < p2 → (cT C t 4 6 ∧ (((cI C t 4) < (cI C t 2) → (cT C a2 5 7 ∧ (((cR C a2 4) = none → (cM c d eX4_leafValue (.ref t :: [va_rf p0, .int p1]) (csi C t 4 ((cI C t 4) + 1)) (fun v C9 => ∃ z10 : Int32, v = some (.int z10) ∧ cle (csi C t 4 ((cI C t 4) + 1)) C9 ∧ (K (some (.int z10)) C9)))) ∧ (∀ a8 : Nat, (cR C a2 4) = some a8 → (cM c d eX4_evaluate (.ref t :: [va_rf (cR C a2 4), .int p1, .int (p2 + 1)]) (csi C t 4 ((cI C t 4) + 1)) (fun v C14 => ∃ z15 : Int32, v = some (.int z15) ∧ cle (csi C t 4 ((cI C t 4) + 1)) C14 ∧ ((¬ z15 = (-1) → (((cI C14 a2 0) = 38 → ((¬ z15 = 1 → (cM c d eX4_evaluate (.ref t :: [va_rf (cR C14 a2 5), .int p1, .int (p2 + 1)]) C14 (fun v C21 => ∃ z22 : Int32, v = some (.int z22) ∧ cle C14 C21 ∧ (K (some (.int z22)) C21)))) ∧ (z15 = 1 → (K (some (.int 1)) C14)))) ∧ ((cI C14 a2 0) = 43 ∨ (cI C14 a2 0) = 45 ∨ (cI C14 a2 0) = 60 ∨ (cI C14 a2 0) = 67 → (cG c eX4_evaluate (d + 1) (cQ K) 300 [some (.ref t), some (va_rf p0), some (.int p1), some (.int p2), some (.int z15)] [] C14)) ∧ ((cI C14 a2 0) = 58 → (cM c d eX4_assign (.ref t :: [.int p1, .int (cI C14 a2 3), .int z15]) C14 (fun v C26 => ∃ z27 : Int32, v = some (.int z27) ∧ cle C14 C26 ∧ ((z27 = 0 → (K (some (.int (-1))) C26)) ∧ (¬ z27 = 0 → (cM c d eX4_evaluate (.ref t :: [va_rf (cR C26 a2 5), .int p1, .int (p2 + 1)]) C26 (fun v C32 => ∃ z33 : Int32, v = some (.int z33) ∧ cle C26 C32 ∧ (K (some (.int z33)) C32)))))))) ∧ ((cI C14 a2 0) = 63 → ((¬ z15 = 1 → (cM c d eX4_evaluate (.ref t :: [va_rf (cR C14 a2 5), .int p1, .int (p2 + 1)]) C14 (fun v C38 => ∃ z39 : Int32, v = some (.int z39) ∧ cle C14 C38 ∧ (K (some (.int z39)) C38)))) ∧ (z15 = 1 → (cM c d eX4_evaluate (.ref t :: [va_rf (cR C14 a2 6), .int p1, .int (p2 + 1)]) C14 (fun v C43 => ∃ z44 : Int32, v = some (.int z44) ∧ cle C14 C43 ∧ (K (some (.int z44)) C43)))))) ∧ ((cI C14 a2 0) = 71 ∨ (cI C14 a2 0) = 72 ∨ (cI C14 a2 0) = 73 → (cG c eX4_evaluate (d + 1) (cQ K) 276 [some (.ref t), some (va_rf p0), some (.int p1), some (.int p2), some (.int z15)] [] C14)) ∧ ((cI C14 a2 0) = 124 → ((¬ z15 = 1 → (K (some (.int z15)) C14)) ∧ (z15 = 1 → (cM c d eX4_evaluate (.ref t :: [va_rf (cR C14 a2 5), .int p1, .int (p2 + 1)]) C14 (fun v C49 => ∃ z50 : Int32, v = some (.int z50) ∧ cle C14 C49 ∧ (K (some (.int z50)) C49)))))) ∧ (¬ (cI C14 a2 0) = 38 ∧ ¬ (cI C14 a2 0) = 43 ∧ ¬ (cI C14 a2 0) = 45 ∧ ¬ (cI C14 a2 0) = 58 ∧ ¬ (cI C14 a2 0) = 60 ∧ ¬ (cI C14 a2 0) = 63 ∧ ¬ (cI C14 a2 0) = 67 ∧ ¬ (cI C14 a2 0) = 71 ∧ ¬ (cI C14 a2 0) = 72 ∧ ¬ (cI C14 a2 0) = 73 ∧ ¬ (cI C14 a2 0) = 124 → (cM c d eX4_applyToOne (.ref t :: [.int (cI C14 a2 0), .int z15]) C14 (fun v C54 => ∃ z55 : Int32, v = some (.int z55) ∧ cle C14 C54 ∧ (K (some (.int z55)) C54)))))) ∧ (z15 = (-1) → (K (some (.int (-1))) C14))))))))) ∧ (¬ (cI C t 4) < (cI C t 2) → (K (some (.int (-1))) C)))))))) : cM c (d + 1) eX4_evaluate [.ref t, va_rf p0, .int p1, .int p2] C K := by
  refine cM.of2 (lv := [some (.ref t), some (va_rf p0), some (.int p1), some (.int p2), none]) (by decide) (by simp only [am_sl_i, am_sl_r, am_sl_l, am_sl_o, am_sl_n]; exact Nat.le_of_ble_eq_true rfl) (by simp only [am_en, am_sl_i, am_sl_r, am_sl_l, am_sl_o, am_sl_n]; rfl) ?_
  refine ag_aload_n dX4_evaluate_0 rfl (va_rf_or _) ?_
  refine cr_ifnull (tgt := 21) dX4_evaluate_1 rfl (fun hr1 => ?_) (fun a2 hr1 => ?_)
  · have h := h.1 hr1
    refine ag_iconst (v := (-1)) dX4_evaluate_21 rfl ?_
    exact ag_ret (v := some (.int (-1))) dX4_evaluate_22 ⟨_, rfl, rfl⟩ ⟨_, rfl, _, rfl, h⟩ rfl
  · have h := h.2 a2 hr1
    refine ag_iload_n dX4_evaluate_4 rfl ?_
    refine ag_bipush (v := 40) dX4_evaluate_5 (by decide) ?_
    refine ag_icmp_gt (tgt := 21) dX4_evaluate_7 rfl (fun hc3 => ?_) (fun hc3 => ?_)
    · have h := h.1 hc3
      refine ag_iconst (v := (-1)) dX4_evaluate_21 rfl ?_
      exact ag_ret (v := some (.int (-1))) dX4_evaluate_22 ⟨_, rfl, rfl⟩ ⟨_, rfl, _, rfl, h⟩ rfl
    · have h := h.2 hc3
      refine ag_aload_n dX4_evaluate_10 rfl (Or.inr ⟨_, rfl⟩) ?_
      obtain ⟨hT4, h⟩ := h
      refine cr_get (v := .int (cI C t 4)) dX4_evaluate_11 fw_4_28 hT4 rfl ?_
      refine ag_aload_n dX4_evaluate_14 rfl (Or.inr ⟨_, rfl⟩) ?_
      refine cr_get (v := .int (cI C t 2)) dX4_evaluate_15 fw_4_19 hT4 rfl ?_
      refine ag_icmp_lt (tgt := 23) dX4_evaluate_18 rfl (fun hc5 => ?_) (fun hc5 => ?_)
      · have h := h.1 hc5
        refine ag_aload_n dX4_evaluate_23 rfl (Or.inr ⟨_, rfl⟩) ?_
        refine ag_dup dX4_evaluate_24 rfl ?_
        refine cr_get (v := .int (cI C t 4)) dX4_evaluate_25 fw_4_28 hT4 rfl ?_
        refine ag_iconst (v := 1) dX4_evaluate_28 rfl ?_
        refine ag_iadd dX4_evaluate_29 rfl ?_
        refine cr_pi (C2 := (csi C t 4 ((cI C t 4) + 1))) dX4_evaluate_30 pw_4_28 rfl hT4 (fun _ => ⟨rfl, rfl⟩) rfl ?_
        refine ag_aload_n dX4_evaluate_33 rfl (va_rf_or _) ?_
        refine cr_stk (st' := [.ref a2]) (by rw [hr1]; rfl) ?_
        obtain ⟨hT6, h⟩ := h
        refine cr_get (v := va_rf (cR C a2 4)) dX4_evaluate_34 fw_4_38 hT6 rfl ?_
        refine cr_ifnonnull (tgt := 47) dX4_evaluate_37 rfl (fun a8 hr7 => ?_) (fun hr7 => ?_)
        · have h := h.2 a8 hr7
          refine ag_aload_n dX4_evaluate_47 rfl (Or.inr ⟨_, rfl⟩) ?_
          refine ag_aload_n dX4_evaluate_48 rfl (va_rf_or _) ?_
          refine cr_stk (st' := [.ref a2, .ref t]) (by rw [hr1]; rfl) ?_
          refine cr_get (v := va_rf (cR C a2 4)) dX4_evaluate_49 fw_4_38 hT6 rfl ?_
          refine ag_iload_n dX4_evaluate_52 rfl ?_
          refine ag_iload_n dX4_evaluate_53 rfl ?_
          refine ag_iconst (v := 1) dX4_evaluate_54 rfl ?_
          refine ag_iadd dX4_evaluate_55 rfl ?_
          refine cr_callV (as := [va_rf (cR C a2 4), .int p1, .int (p2 + 1)]) (rest := []) dX4_evaluate_56 me_X4_evaluate mi_X4_evaluate lk_4_34 hT4 rfl rfl (Nat.le_of_ble_eq_true rfl) ?_
          refine cM.mono h ?_
          rintro v C14 ⟨z15, rfl, hL16, h⟩
          have hT17 := cT.le (C := (csi C t 4 ((cI C t 4) + 1))) hT4 hL16
          have hT18 := cT.le (C := (csi C t 4 ((cI C t 4) + 1))) hT6 hL16
          show cG _ _ _ _ _ _ [.int z15] _
          refine ag_istore (lv2 := [some (.ref t), some (va_rf p0), some (.int p1), some (.int p2), some (.int z15)]) dX4_evaluate_59 (Nat.le_of_ble_eq_true rfl) rfl ?_
          refine ag_iload dX4_evaluate_61 rfl ?_
          refine ag_iconst (v := (-1)) dX4_evaluate_63 rfl ?_
          refine ag_icmp_ne (tgt := 69) dX4_evaluate_64 rfl (fun hc19 => ?_) (fun hc19 => ?_)
          · have h := h.1 hc19
            refine ag_aload_n dX4_evaluate_69 rfl (va_rf_or _) ?_
            refine cr_stk (st' := [.ref a2]) (by rw [hr1]; rfl) ?_
            refine cr_get (v := .int (cI C14 a2 0)) dX4_evaluate_70 fw_4_48 hT18 rfl ?_
            obtain ⟨q59, q60, q61, q62, q63, q64, q65⟩ := h
            by_cases hk66 : (cI C14 a2 0) = 38
            · refine ag_lookup (tgt := 198) (off := 125) dX4_evaluate_73 (by decide) (by rw [hk66]; decide) rfl ?_
              have h := q59 hk66
              refine ag_iload dX4_evaluate_198 rfl ?_
              refine ag_iconst (v := 1) dX4_evaluate_200 rfl ?_
              refine ag_icmp_ne (tgt := 208) dX4_evaluate_201 rfl (fun hc20 => ?_) (fun hc20 => ?_)
              · have h := h.1 hc20
                refine ag_aload_n dX4_evaluate_208 rfl (Or.inr ⟨_, rfl⟩) ?_
                refine ag_aload_n dX4_evaluate_209 rfl (va_rf_or _) ?_
                refine cr_stk (st' := [.ref a2, .ref t]) (by rw [hr1]; rfl) ?_
                refine cr_get (v := va_rf (cR C14 a2 5)) dX4_evaluate_210 fw_4_54 hT18 rfl ?_
                refine ag_iload_n dX4_evaluate_213 rfl ?_
                refine ag_iload_n dX4_evaluate_214 rfl ?_
                refine ag_iconst (v := 1) dX4_evaluate_215 rfl ?_
                refine ag_iadd dX4_evaluate_216 rfl ?_
                refine cr_callV (as := [va_rf (cR C14 a2 5), .int p1, .int (p2 + 1)]) (rest := []) dX4_evaluate_217 me_X4_evaluate mi_X4_evaluate lk_4_34 hT17 rfl rfl (Nat.le_of_ble_eq_true rfl) ?_
                refine cM.mono h ?_
                rintro v C21 ⟨z22, rfl, hL23, h⟩
                have hT24 := cT.le (C := C14) hT17 hL23
                have hT25 := cT.le (C := C14) hT18 hL23
                show cG _ _ _ _ _ _ [.int z22] _
                exact ag_ret (v := some (.int z22)) dX4_evaluate_220 ⟨_, rfl, rfl⟩ ⟨_, rfl, _, rfl, h⟩ rfl
              · have h := h.2 hc20
                refine ag_iconst (v := 1) dX4_evaluate_204 rfl ?_
                refine ag_goto (tgt := 220) dX4_evaluate_205 rfl ?_
                exact ag_ret (v := some (.int 1)) dX4_evaluate_220 ⟨_, rfl, rfl⟩ ⟨_, rfl, _, rfl, h⟩ rfl
            · by_cases hk67 : (cI C14 a2 0) = 43
              · refine ag_lookup (tgt := 300) (off := 227) dX4_evaluate_73 (by decide) (by rw [lv_osw (k := 38) hk66 (by decide)]; rw [hk67]; decide) rfl ?_
                have h := q60 (Or.inl hk67)
                exact h
              · by_cases hk68 : (cI C14 a2 0) = 45
                · refine ag_lookup (tgt := 300) (off := 227) dX4_evaluate_73 (by decide) (by rw [lv_osw (k := 38) hk66 (by decide)]; rw [lv_osw (k := 43) hk67 (by decide)]; rw [hk68]; decide) rfl ?_
                  have h := q60 (Or.inr (Or.inl hk68))
                  exact h
                · by_cases hk69 : (cI C14 a2 0) = 58
                  · refine ag_lookup (tgt := 245) (off := 172) dX4_evaluate_73 (by decide) (by rw [lv_osw (k := 38) hk66 (by decide)]; rw [lv_osw (k := 43) hk67 (by decide)]; rw [lv_osw (k := 45) hk68 (by decide)]; rw [hk69]; decide) rfl ?_
                    have h := q61 hk69
                    refine ag_aload_n dX4_evaluate_245 rfl (Or.inr ⟨_, rfl⟩) ?_
                    refine ag_iload_n dX4_evaluate_246 rfl ?_
                    refine ag_aload_n dX4_evaluate_247 rfl (va_rf_or _) ?_
                    refine cr_stk (st' := [.ref a2, .int p1, .ref t]) (by rw [hr1]; rfl) ?_
                    refine cr_get (v := .int (cI C14 a2 3)) dX4_evaluate_248 fw_4_57 hT18 rfl ?_
                    refine ag_iload dX4_evaluate_251 rfl ?_
                    refine cr_callV (as := [.int p1, .int (cI C14 a2 3), .int z15]) (rest := []) dX4_evaluate_253 me_X4_assign mi_X4_assign lk_4_60 hT17 rfl rfl (Nat.le_of_ble_eq_true rfl) ?_
                    refine cM.mono h ?_
                    rintro v C26 ⟨z27, rfl, hL28, h⟩
                    have hT29 := cT.le (C := C14) hT17 hL28
                    have hT30 := cT.le (C := C14) hT18 hL28
                    show cG _ _ _ _ _ _ [.int z27] _
                    refine ag_if_eq (tgt := 274) dX4_evaluate_256 rfl (fun hc31 => ?_) (fun hc31 => ?_)
                    · have h := h.1 hc31
                      refine ag_iconst (v := (-1)) dX4_evaluate_274 rfl ?_
                      exact ag_ret (v := some (.int (-1))) dX4_evaluate_275 ⟨_, rfl, rfl⟩ ⟨_, rfl, _, rfl, h⟩ rfl
                    · have h := h.2 hc31
                      refine ag_aload_n dX4_evaluate_259 rfl (Or.inr ⟨_, rfl⟩) ?_
                      refine ag_aload_n dX4_evaluate_260 rfl (va_rf_or _) ?_
                      refine cr_stk (st' := [.ref a2, .ref t]) (by rw [hr1]; rfl) ?_
                      refine cr_get (v := va_rf (cR C26 a2 5)) dX4_evaluate_261 fw_4_54 hT30 rfl ?_
                      refine ag_iload_n dX4_evaluate_264 rfl ?_
                      refine ag_iload_n dX4_evaluate_265 rfl ?_
                      refine ag_iconst (v := 1) dX4_evaluate_266 rfl ?_
                      refine ag_iadd dX4_evaluate_267 rfl ?_
                      refine cr_callV (as := [va_rf (cR C26 a2 5), .int p1, .int (p2 + 1)]) (rest := []) dX4_evaluate_268 me_X4_evaluate mi_X4_evaluate lk_4_34 hT29 rfl rfl (Nat.le_of_ble_eq_true rfl) ?_
                      refine cM.mono h ?_
                      rintro v C32 ⟨z33, rfl, hL34, h⟩
                      have hT35 := cT.le (C := C26) hT29 hL34
                      have hT36 := cT.le (C := C26) hT30 hL34
                      show cG _ _ _ _ _ _ [.int z33] _
                      refine ag_goto (tgt := 275) dX4_evaluate_271 rfl ?_
                      exact ag_ret (v := some (.int z33)) dX4_evaluate_275 ⟨_, rfl, rfl⟩ ⟨_, rfl, _, rfl, h⟩ rfl
                  · by_cases hk70 : (cI C14 a2 0) = 60
                    · refine ag_lookup (tgt := 300) (off := 227) dX4_evaluate_73 (by decide) (by rw [lv_osw (k := 38) hk66 (by decide)]; rw [lv_osw (k := 43) hk67 (by decide)]; rw [lv_osw (k := 45) hk68 (by decide)]; rw [lv_osw (k := 58) hk69 (by decide)]; rw [hk70]; decide) rfl ?_
                      have h := q60 (Or.inr (Or.inr (Or.inl hk70)))
                      exact h
                    · by_cases hk71 : (cI C14 a2 0) = 63
                      · refine ag_lookup (tgt := 172) (off := 99) dX4_evaluate_73 (by decide) (by rw [lv_osw (k := 38) hk66 (by decide)]; rw [lv_osw (k := 43) hk67 (by decide)]; rw [lv_osw (k := 45) hk68 (by decide)]; rw [lv_osw (k := 58) hk69 (by decide)]; rw [lv_osw (k := 60) hk70 (by decide)]; rw [hk71]; decide) rfl ?_
                        have h := q62 hk71
                        refine ag_aload_n dX4_evaluate_172 rfl (Or.inr ⟨_, rfl⟩) ?_
                        refine ag_iload dX4_evaluate_173 rfl ?_
                        refine ag_iconst (v := 1) dX4_evaluate_175 rfl ?_
                        refine ag_icmp_ne (tgt := 186) dX4_evaluate_176 rfl (fun hc37 => ?_) (fun hc37 => ?_)
                        · have h := h.1 hc37
                          refine ag_aload_n dX4_evaluate_186 rfl (va_rf_or _) ?_
                          refine cr_stk (st' := [.ref a2, .ref t]) (by rw [hr1]; rfl) ?_
                          refine cr_get (v := va_rf (cR C14 a2 5)) dX4_evaluate_187 fw_4_54 hT18 rfl ?_
                          refine ag_iload_n dX4_evaluate_190 rfl ?_
                          refine ag_iload_n dX4_evaluate_191 rfl ?_
                          refine ag_iconst (v := 1) dX4_evaluate_192 rfl ?_
                          refine ag_iadd dX4_evaluate_193 rfl ?_
                          refine cr_callV (as := [va_rf (cR C14 a2 5), .int p1, .int (p2 + 1)]) (rest := []) dX4_evaluate_194 me_X4_evaluate mi_X4_evaluate lk_4_34 hT17 rfl rfl (Nat.le_of_ble_eq_true rfl) ?_
                          refine cM.mono h ?_
                          rintro v C38 ⟨z39, rfl, hL40, h⟩
                          have hT41 := cT.le (C := C14) hT17 hL40
                          have hT42 := cT.le (C := C14) hT18 hL40
                          show cG _ _ _ _ _ _ [.int z39] _
                          exact ag_ret (v := some (.int z39)) dX4_evaluate_197 ⟨_, rfl, rfl⟩ ⟨_, rfl, _, rfl, h⟩ rfl
                        · have h := h.2 hc37
                          refine ag_aload_n dX4_evaluate_179 rfl (va_rf_or _) ?_
                          refine cr_stk (st' := [.ref a2, .ref t]) (by rw [hr1]; rfl) ?_
                          refine cr_get (v := va_rf (cR C14 a2 6)) dX4_evaluate_180 fw_4_51 hT18 rfl ?_
                          refine ag_goto (tgt := 190) dX4_evaluate_183 rfl ?_
                          refine ag_iload_n dX4_evaluate_190 rfl ?_
                          refine ag_iload_n dX4_evaluate_191 rfl ?_
                          refine ag_iconst (v := 1) dX4_evaluate_192 rfl ?_
                          refine ag_iadd dX4_evaluate_193 rfl ?_
                          refine cr_callV (as := [va_rf (cR C14 a2 6), .int p1, .int (p2 + 1)]) (rest := []) dX4_evaluate_194 me_X4_evaluate mi_X4_evaluate lk_4_34 hT17 rfl rfl (Nat.le_of_ble_eq_true rfl) ?_
                          refine cM.mono h ?_
                          rintro v C43 ⟨z44, rfl, hL45, h⟩
                          have hT46 := cT.le (C := C14) hT17 hL45
                          have hT47 := cT.le (C := C14) hT18 hL45
                          show cG _ _ _ _ _ _ [.int z44] _
                          exact ag_ret (v := some (.int z44)) dX4_evaluate_197 ⟨_, rfl, rfl⟩ ⟨_, rfl, _, rfl, h⟩ rfl
                      · by_cases hk72 : (cI C14 a2 0) = 67
                        · refine ag_lookup (tgt := 300) (off := 227) dX4_evaluate_73 (by decide) (by rw [lv_osw (k := 38) hk66 (by decide)]; rw [lv_osw (k := 43) hk67 (by decide)]; rw [lv_osw (k := 45) hk68 (by decide)]; rw [lv_osw (k := 58) hk69 (by decide)]; rw [lv_osw (k := 60) hk70 (by decide)]; rw [lv_osw (k := 63) hk71 (by decide)]; rw [hk72]; decide) rfl ?_
                          have h := q60 (Or.inr (Or.inr (Or.inr hk72)))
                          exact h
                        · by_cases hk73 : (cI C14 a2 0) = 71
                          · refine ag_lookup (tgt := 276) (off := 203) dX4_evaluate_73 (by decide) (by rw [lv_osw (k := 38) hk66 (by decide)]; rw [lv_osw (k := 43) hk67 (by decide)]; rw [lv_osw (k := 45) hk68 (by decide)]; rw [lv_osw (k := 58) hk69 (by decide)]; rw [lv_osw (k := 60) hk70 (by decide)]; rw [lv_osw (k := 63) hk71 (by decide)]; rw [lv_osw (k := 67) hk72 (by decide)]; rw [hk73]; decide) rfl ?_
                            have h := q63 (Or.inl hk73)
                            exact h
                          · by_cases hk74 : (cI C14 a2 0) = 72
                            · refine ag_lookup (tgt := 276) (off := 203) dX4_evaluate_73 (by decide) (by rw [lv_osw (k := 38) hk66 (by decide)]; rw [lv_osw (k := 43) hk67 (by decide)]; rw [lv_osw (k := 45) hk68 (by decide)]; rw [lv_osw (k := 58) hk69 (by decide)]; rw [lv_osw (k := 60) hk70 (by decide)]; rw [lv_osw (k := 63) hk71 (by decide)]; rw [lv_osw (k := 67) hk72 (by decide)]; rw [lv_osw (k := 71) hk73 (by decide)]; rw [hk74]; decide) rfl ?_
                              have h := q63 (Or.inr (Or.inl hk74))
                              exact h
                            · by_cases hk75 : (cI C14 a2 0) = 73
                              · refine ag_lookup (tgt := 276) (off := 203) dX4_evaluate_73 (by decide) (by rw [lv_osw (k := 38) hk66 (by decide)]; rw [lv_osw (k := 43) hk67 (by decide)]; rw [lv_osw (k := 45) hk68 (by decide)]; rw [lv_osw (k := 58) hk69 (by decide)]; rw [lv_osw (k := 60) hk70 (by decide)]; rw [lv_osw (k := 63) hk71 (by decide)]; rw [lv_osw (k := 67) hk72 (by decide)]; rw [lv_osw (k := 71) hk73 (by decide)]; rw [lv_osw (k := 72) hk74 (by decide)]; rw [hk75]; decide) rfl ?_
                                have h := q63 (Or.inr (Or.inr hk75))
                                exact h
                              · by_cases hk76 : (cI C14 a2 0) = 124
                                · refine ag_lookup (tgt := 221) (off := 148) dX4_evaluate_73 (by decide) (by rw [lv_osw (k := 38) hk66 (by decide)]; rw [lv_osw (k := 43) hk67 (by decide)]; rw [lv_osw (k := 45) hk68 (by decide)]; rw [lv_osw (k := 58) hk69 (by decide)]; rw [lv_osw (k := 60) hk70 (by decide)]; rw [lv_osw (k := 63) hk71 (by decide)]; rw [lv_osw (k := 67) hk72 (by decide)]; rw [lv_osw (k := 71) hk73 (by decide)]; rw [lv_osw (k := 72) hk74 (by decide)]; rw [lv_osw (k := 73) hk75 (by decide)]; rw [hk76]; decide) rfl ?_
                                  have h := q64 hk76
                                  refine ag_iload dX4_evaluate_221 rfl ?_
                                  refine ag_iconst (v := 1) dX4_evaluate_223 rfl ?_
                                  refine ag_icmp_ne (tgt := 242) dX4_evaluate_224 rfl (fun hc48 => ?_) (fun hc48 => ?_)
                                  · have h := h.1 hc48
                                    refine ag_iload dX4_evaluate_242 rfl ?_
                                    exact ag_ret (v := some (.int z15)) dX4_evaluate_244 ⟨_, rfl, rfl⟩ ⟨_, rfl, _, rfl, h⟩ rfl
                                  · have h := h.2 hc48
                                    refine ag_aload_n dX4_evaluate_227 rfl (Or.inr ⟨_, rfl⟩) ?_
                                    refine ag_aload_n dX4_evaluate_228 rfl (va_rf_or _) ?_
                                    refine cr_stk (st' := [.ref a2, .ref t]) (by rw [hr1]; rfl) ?_
                                    refine cr_get (v := va_rf (cR C14 a2 5)) dX4_evaluate_229 fw_4_54 hT18 rfl ?_
                                    refine ag_iload_n dX4_evaluate_232 rfl ?_
                                    refine ag_iload_n dX4_evaluate_233 rfl ?_
                                    refine ag_iconst (v := 1) dX4_evaluate_234 rfl ?_
                                    refine ag_iadd dX4_evaluate_235 rfl ?_
                                    refine cr_callV (as := [va_rf (cR C14 a2 5), .int p1, .int (p2 + 1)]) (rest := []) dX4_evaluate_236 me_X4_evaluate mi_X4_evaluate lk_4_34 hT17 rfl rfl (Nat.le_of_ble_eq_true rfl) ?_
                                    refine cM.mono h ?_
                                    rintro v C49 ⟨z50, rfl, hL51, h⟩
                                    have hT52 := cT.le (C := C14) hT17 hL51
                                    have hT53 := cT.le (C := C14) hT18 hL51
                                    show cG _ _ _ _ _ _ [.int z50] _
                                    refine ag_goto (tgt := 244) dX4_evaluate_239 rfl ?_
                                    exact ag_ret (v := some (.int z50)) dX4_evaluate_244 ⟨_, rfl, rfl⟩ ⟨_, rfl, _, rfl, h⟩ rfl
                                · refine ag_lookup (tgt := 323) (off := 250) dX4_evaluate_73 (by decide) (by rw [lv_osw (k := 38) hk66 (by decide)]; rw [lv_osw (k := 43) hk67 (by decide)]; rw [lv_osw (k := 45) hk68 (by decide)]; rw [lv_osw (k := 58) hk69 (by decide)]; rw [lv_osw (k := 60) hk70 (by decide)]; rw [lv_osw (k := 63) hk71 (by decide)]; rw [lv_osw (k := 67) hk72 (by decide)]; rw [lv_osw (k := 71) hk73 (by decide)]; rw [lv_osw (k := 72) hk74 (by decide)]; rw [lv_osw (k := 73) hk75 (by decide)]; rw [lv_osw (k := 124) hk76 (by decide)]; rfl) rfl ?_
                                  have h := q65 ⟨hk66, hk67, hk68, hk69, hk70, hk71, hk72, hk73, hk74, hk75, hk76⟩
                                  refine ag_aload_n dX4_evaluate_323 rfl (Or.inr ⟨_, rfl⟩) ?_
                                  refine ag_aload_n dX4_evaluate_324 rfl (va_rf_or _) ?_
                                  refine cr_stk (st' := [.ref a2, .ref t]) (by rw [hr1]; rfl) ?_
                                  refine cr_get (v := .int (cI C14 a2 0)) dX4_evaluate_325 fw_4_48 hT18 rfl ?_
                                  refine ag_iload dX4_evaluate_328 rfl ?_
                                  refine cr_callV (as := [.int (cI C14 a2 0), .int z15]) (rest := []) dX4_evaluate_330 me_X4_applyToOne mi_X4_applyToOne lk_4_76 hT17 rfl rfl (Nat.le_of_ble_eq_true rfl) ?_
                                  refine cM.mono h ?_
                                  rintro v C54 ⟨z55, rfl, hL56, h⟩
                                  have hT57 := cT.le (C := C14) hT17 hL56
                                  have hT58 := cT.le (C := C14) hT18 hL56
                                  show cG _ _ _ _ _ _ [.int z55] _
                                  exact ag_ret (v := some (.int z55)) dX4_evaluate_333 ⟨_, rfl, rfl⟩ ⟨_, rfl, _, rfl, h⟩ rfl
          · have h := h.2 hc19
            refine ag_iconst (v := (-1)) dX4_evaluate_67 rfl ?_
            exact ag_ret (v := some (.int (-1))) dX4_evaluate_68 ⟨_, rfl, rfl⟩ ⟨_, rfl, _, rfl, h⟩ rfl
        · have h := h.1 hr7
          refine ag_aload_n dX4_evaluate_40 rfl (Or.inr ⟨_, rfl⟩) ?_
          refine ag_aload_n dX4_evaluate_41 rfl (va_rf_or _) ?_
          refine ag_iload_n dX4_evaluate_42 rfl ?_
          refine cr_callV (as := [va_rf p0, .int p1]) (rest := []) dX4_evaluate_43 me_X4_leafValue mi_X4_leafValue lk_4_44 hT4 rfl rfl (Nat.le_of_ble_eq_true rfl) ?_
          refine cM.mono h ?_
          rintro v C9 ⟨z10, rfl, hL11, h⟩
          have hT12 := cT.le (C := (csi C t 4 ((cI C t 4) + 1))) hT4 hL11
          have hT13 := cT.le (C := (csi C t 4 ((cI C t 4) + 1))) hT6 hL11
          show cG _ _ _ _ _ _ [.int z10] _
          exact ag_ret (v := some (.int z10)) dX4_evaluate_46 ⟨_, rfl, rfl⟩ ⟨_, rfl, _, rfl, h⟩ rfl
      · have h := h.2 hc5
        refine ag_iconst (v := (-1)) dX4_evaluate_21 rfl ?_
        exact ag_ret (v := some (.int (-1))) dX4_evaluate_22 ⟨_, rfl, rfl⟩ ⟨_, rfl, _, rfl, h⟩ rfl
set_option maxRecDepth 20000 in
set_option maxHeartbeats 4000000 in
theorem w_X4_evaluate_276 {c : cX} {d : Nat} {C : cS} {K : Option Value → cS → Prop} (t : Nat) (v1 : Option Nat) (v2 : Int32) (v3 : Int32) (v4 : Int32) (h : cT C t 4 6 ∧ (∃ a2 : Nat, v1 = some a2 ∧ (cT C a2 5 7 ∧ (cM c d eX9_functionOf [va_rf (cR C t 1), .int (cI C a2 0)] C (fun v C5 => ∃ z6 : Option Nat, v = some (va_rf z6) ∧ cle C C5 ∧ (cM c d eX4_evaluateBody (.ref t :: [va_rf z6, .int v4, .int (v2 + 1), .int (v3 + 1)]) C5 (fun v C10 => ∃ z11 : Int32, v = some (.int z11) ∧ cle C5 C10 ∧ (K (some (.int z11)) C10)))))))) : cG c eX4_evaluate (d + 1) (cQ K) 276 [some (.ref t), some (va_rf v1), some (.int v2), some (.int v3), some (.int v4)] [] C := by
  refine ag_aload_n dX4_evaluate_276 rfl (Or.inr ⟨_, rfl⟩) ?_
  refine ag_aload_n dX4_evaluate_277 rfl (Or.inr ⟨_, rfl⟩) ?_
  obtain ⟨hT1, h⟩ := h
  refine cr_get (v := va_rf (cR C t 1)) dX4_evaluate_278 fw_4_15 hT1 rfl ?_
  refine ag_aload_n dX4_evaluate_281 rfl (va_rf_or _) ?_
  obtain ⟨a2, hr3, h⟩ := h
  refine cr_stk (st' := [.ref a2, va_rf (cR C t 1), .ref t]) (by rw [hr3]; rfl) ?_
  obtain ⟨hT4, h⟩ := h
  refine cr_get (v := .int (cI C a2 0)) dX4_evaluate_282 fw_4_48 hT4 rfl ?_
  refine cr_callSN (as := [va_rf (cR C t 1), .int (cI C a2 0)]) (rest := [.ref t]) dX4_evaluate_285 me_X9_functionOf ms_X9_functionOf ln_4_64 rfl rfl (Nat.le_of_ble_eq_true rfl) ?_
  refine cM.mono h ?_
  rintro v C5 ⟨z6, rfl, hL7, h⟩
  have hT8 := cT.le (C := C) hT1 hL7
  have hT9 := cT.le (C := C) hT4 hL7
  show cG _ _ _ _ _ _ [va_rf z6, .ref t] _
  refine ag_iload dX4_evaluate_288 rfl ?_
  refine ag_iload_n dX4_evaluate_290 rfl ?_
  refine ag_iconst (v := 1) dX4_evaluate_291 rfl ?_
  refine ag_iadd dX4_evaluate_292 rfl ?_
  refine ag_iload_n dX4_evaluate_293 rfl ?_
  refine ag_iconst (v := 1) dX4_evaluate_294 rfl ?_
  refine ag_iadd dX4_evaluate_295 rfl ?_
  refine cr_callV (as := [va_rf z6, .int v4, .int (v2 + 1), .int (v3 + 1)]) (rest := []) dX4_evaluate_296 me_X4_evaluateBody mi_X4_evaluateBody lk_4_68 hT8 rfl rfl (Nat.le_of_ble_eq_true rfl) ?_
  refine cM.mono h ?_
  rintro v C10 ⟨z11, rfl, hL12, h⟩
  have hT13 := cT.le (C := C5) hT8 hL12
  have hT14 := cT.le (C := C5) hT9 hL12
  show cG _ _ _ _ _ _ [.int z11] _
  exact ag_ret (v := some (.int z11)) dX4_evaluate_299 ⟨_, rfl, rfl⟩ ⟨_, rfl, _, rfl, h⟩ rfl
set_option maxRecDepth 20000 in
set_option maxHeartbeats 4000000 in
theorem w_X4_evaluate_300 {c : cX} {d : Nat} {C : cS} {K : Option Value → cS → Prop} (t : Nat) (v1 : Option Nat) (v2 : Int32) (v3 : Int32) (v4 : Int32) (h : ∃ a1 : Nat, v1 = some a1 ∧ (cT C a1 5 7 ∧ (cT C t 4 6 ∧ (cM c d eX4_evaluate (.ref t :: [va_rf (cR C a1 5), .int v2, .int (v3 + 1)]) C (fun v C4 => ∃ z5 : Int32, v = some (.int z5) ∧ cle C C4 ∧ (cM c d eX4_applyToTwo (.ref t :: [.int (cI C a1 0), .int v4, .int z5]) C4 (fun v C10 => ∃ z11 : Int32, v = some (.int z11) ∧ cle C4 C10 ∧ (K (some (.int z11)) C10)))))))) : cG c eX4_evaluate (d + 1) (cQ K) 300 [some (.ref t), some (va_rf v1), some (.int v2), some (.int v3), some (.int v4)] [] C := by
  refine ag_aload_n dX4_evaluate_300 rfl (Or.inr ⟨_, rfl⟩) ?_
  refine ag_aload_n dX4_evaluate_301 rfl (va_rf_or _) ?_
  obtain ⟨a1, hr2, h⟩ := h
  refine cr_stk (st' := [.ref a1, .ref t]) (by rw [hr2]; rfl) ?_
  obtain ⟨hT3, h⟩ := h
  refine cr_get (v := .int (cI C a1 0)) dX4_evaluate_302 fw_4_48 hT3 rfl ?_
  refine ag_iload dX4_evaluate_305 rfl ?_
  refine ag_aload_n dX4_evaluate_307 rfl (Or.inr ⟨_, rfl⟩) ?_
  refine ag_aload_n dX4_evaluate_308 rfl (va_rf_or _) ?_
  refine cr_stk (st' := [.ref a1, .ref t, .int v4, .int (cI C a1 0), .ref t]) (by rw [hr2]; rfl) ?_
  refine cr_get (v := va_rf (cR C a1 5)) dX4_evaluate_309 fw_4_54 hT3 rfl ?_
  refine ag_iload_n dX4_evaluate_312 rfl ?_
  refine ag_iload_n dX4_evaluate_313 rfl ?_
  refine ag_iconst (v := 1) dX4_evaluate_314 rfl ?_
  refine ag_iadd dX4_evaluate_315 rfl ?_
  obtain ⟨hT7, h⟩ := h
  refine cr_callV (as := [va_rf (cR C a1 5), .int v2, .int (v3 + 1)]) (rest := [.int v4, .int (cI C a1 0), .ref t]) dX4_evaluate_316 me_X4_evaluate mi_X4_evaluate lk_4_34 hT7 rfl rfl (Nat.le_of_ble_eq_true rfl) ?_
  refine cM.mono h ?_
  rintro v C4 ⟨z5, rfl, hL6, h⟩
  have hT8 := cT.le (C := C) hT3 hL6
  have hT9 := cT.le (C := C) hT7 hL6
  show cG _ _ _ _ _ _ [.int z5, .int v4, .int (cI C a1 0), .ref t] _
  refine cr_callV (as := [.int (cI C a1 0), .int v4, .int z5]) (rest := []) dX4_evaluate_319 me_X4_applyToTwo mi_X4_applyToTwo lk_4_72 hT9 rfl rfl (Nat.le_of_ble_eq_true rfl) ?_
  refine cM.mono h ?_
  rintro v C10 ⟨z11, rfl, hL12, h⟩
  have hT13 := cT.le (C := C4) hT8 hL12
  have hT14 := cT.le (C := C4) hT9 hL12
  show cG _ _ _ _ _ _ [.int z11] _
  exact ag_ret (v := some (.int z11)) dX4_evaluate_322 ⟨_, rfl, rfl⟩ ⟨_, rfl, _, rfl, h⟩ rfl
theorem dX4_evaluateBody_0 : decode cX4_evaluateBody 0 = .ok (.aload_n 1, 1) := by decide +kernel
theorem dX4_evaluateBody_1 : decode cX4_evaluateBody 1 = .ok (.ifnull 13, 3) := by decide +kernel
theorem dX4_evaluateBody_4 : decode cX4_evaluateBody 4 = .ok (.aload_n 0, 1) := by decide +kernel
theorem dX4_evaluateBody_5 : decode cX4_evaluateBody 5 = .ok (.iload_n 3, 1) := by decide +kernel
theorem dX4_evaluateBody_6 : decode cX4_evaluateBody 6 = .ok (.iconst 0, 1) := by decide +kernel
theorem dX4_evaluateBody_7 : decode cX4_evaluateBody 7 = .ok (.iload_n 2, 1) := by decide +kernel
theorem dX4_evaluateBody_8 : decode cX4_evaluateBody 8 = .ok (.invokevirtual 60, 3) := by decide +kernel
theorem dX4_evaluateBody_11 : decode cX4_evaluateBody 11 = .ok (.ifCond .ne 5, 3) := by decide +kernel
theorem dX4_evaluateBody_14 : decode cX4_evaluateBody 14 = .ok (.iconst (-1), 1) := by decide +kernel
theorem dX4_evaluateBody_15 : decode cX4_evaluateBody 15 = .ok (.ireturn, 1) := by decide +kernel
theorem dX4_evaluateBody_16 : decode cX4_evaluateBody 16 = .ok (.aload_n 0, 1) := by decide +kernel
theorem dX4_evaluateBody_17 : decode cX4_evaluateBody 17 = .ok (.aload_n 1, 1) := by decide +kernel
theorem dX4_evaluateBody_18 : decode cX4_evaluateBody 18 = .ok (.getfield 80, 3) := by decide +kernel
theorem dX4_evaluateBody_21 : decode cX4_evaluateBody 21 = .ok (.iload_n 3, 1) := by decide +kernel
theorem dX4_evaluateBody_22 : decode cX4_evaluateBody 22 = .ok (.iload 4, 2) := by decide +kernel
theorem dX4_evaluateBody_24 : decode cX4_evaluateBody 24 = .ok (.invokevirtual 34, 3) := by decide +kernel
theorem dX4_evaluateBody_27 : decode cX4_evaluateBody 27 = .ok (.ireturn, 1) := by decide +kernel
set_option maxRecDepth 20000 in
set_option maxHeartbeats 4000000 in
theorem w_X4_evaluateBody {c : cX} {d : Nat} {C : cS} {K : Option Value → cS → Prop} (t : Nat) (p0 : Option Nat) (p1 : Int32) (p2 : Int32) (p3 : Int32) (h : (p0 = none → (K (some (.int (-1))) C)) ∧ (∀ a2 : Nat, p0 = some a2 → (cT C t 4 6 ∧ (cM c d eX4_assign (.ref t :: [.int p2, .int 0, .int p1]) C (fun v C3 => ∃ z4 : Int32, v = some (.int z4) ∧ cle C C3 ∧ ((¬ z4 = 0 → (cT C3 a2 3 5 ∧ (cM c d eX4_evaluate (.ref t :: [va_rf (cR C3 a2 0), .int p2, .int p3]) C3 (fun v C10 => ∃ z11 : Int32, v = some (.int z11) ∧ cle C3 C10 ∧ (K (some (.int z11)) C10))))) ∧ (z4 = 0 → (K (some (.int (-1))) C3)))))))) : cM c (d + 1) eX4_evaluateBody [.ref t, va_rf p0, .int p1, .int p2, .int p3] C K := by
  refine cM.of2 (lv := [some (.ref t), some (va_rf p0), some (.int p1), some (.int p2), some (.int p3)]) (by decide) (by simp only [am_sl_i, am_sl_r, am_sl_l, am_sl_o, am_sl_n]; exact Nat.le_of_ble_eq_true rfl) (by simp only [am_en, am_sl_i, am_sl_r, am_sl_l, am_sl_o, am_sl_n]; rfl) ?_
  refine ag_aload_n dX4_evaluateBody_0 rfl (va_rf_or _) ?_
  refine cr_ifnull (tgt := 14) dX4_evaluateBody_1 rfl (fun hr1 => ?_) (fun a2 hr1 => ?_)
  · have h := h.1 hr1
    refine ag_iconst (v := (-1)) dX4_evaluateBody_14 rfl ?_
    exact ag_ret (v := some (.int (-1))) dX4_evaluateBody_15 ⟨_, rfl, rfl⟩ ⟨_, rfl, _, rfl, h⟩ rfl
  · have h := h.2 a2 hr1
    refine ag_aload_n dX4_evaluateBody_4 rfl (Or.inr ⟨_, rfl⟩) ?_
    refine ag_iload_n dX4_evaluateBody_5 rfl ?_
    refine ag_iconst (v := 0) dX4_evaluateBody_6 rfl ?_
    refine ag_iload_n dX4_evaluateBody_7 rfl ?_
    obtain ⟨hT6, h⟩ := h
    refine cr_callV (as := [.int p2, .int 0, .int p1]) (rest := []) dX4_evaluateBody_8 me_X4_assign mi_X4_assign lk_4_60 hT6 rfl rfl (Nat.le_of_ble_eq_true rfl) ?_
    refine cM.mono h ?_
    rintro v C3 ⟨z4, rfl, hL5, h⟩
    have hT7 := cT.le (C := C) hT6 hL5
    show cG _ _ _ _ _ _ [.int z4] _
    refine ag_if_ne (tgt := 16) dX4_evaluateBody_11 rfl (fun hc8 => ?_) (fun hc8 => ?_)
    · have h := h.1 hc8
      refine ag_aload_n dX4_evaluateBody_16 rfl (Or.inr ⟨_, rfl⟩) ?_
      refine ag_aload_n dX4_evaluateBody_17 rfl (va_rf_or _) ?_
      refine cr_stk (st' := [.ref a2, .ref t]) (by rw [hr1]; rfl) ?_
      obtain ⟨hT9, h⟩ := h
      refine cr_get (v := va_rf (cR C3 a2 0)) dX4_evaluateBody_18 fw_4_80 hT9 rfl ?_
      refine ag_iload_n dX4_evaluateBody_21 rfl ?_
      refine ag_iload dX4_evaluateBody_22 rfl ?_
      refine cr_callV (as := [va_rf (cR C3 a2 0), .int p2, .int p3]) (rest := []) dX4_evaluateBody_24 me_X4_evaluate mi_X4_evaluate lk_4_34 hT7 rfl rfl (Nat.le_of_ble_eq_true rfl) ?_
      refine cM.mono h ?_
      rintro v C10 ⟨z11, rfl, hL12, h⟩
      have hT13 := cT.le (C := C3) hT7 hL12
      have hT14 := cT.le (C := C3) hT9 hL12
      show cG _ _ _ _ _ _ [.int z11] _
      exact ag_ret (v := some (.int z11)) dX4_evaluateBody_27 ⟨_, rfl, rfl⟩ ⟨_, rfl, _, rfl, h⟩ rfl
    · have h := h.2 hc8
      refine ag_iconst (v := (-1)) dX4_evaluateBody_14 rfl ?_
      exact ag_ret (v := some (.int (-1))) dX4_evaluateBody_15 ⟨_, rfl, rfl⟩ ⟨_, rfl, _, rfl, h⟩ rfl
theorem dX4_leafValue_0 : decode cX4_leafValue 0 = .ok (.aload_n 1, 1) := by decide +kernel
theorem dX4_leafValue_1 : decode cX4_leafValue 1 = .ok (.getfield 57, 3) := by decide +kernel
theorem dX4_leafValue_4 : decode cX4_leafValue 4 = .ok (.ifCond .lt 33, 3) := by decide +kernel
theorem dX4_leafValue_7 : decode cX4_leafValue 7 = .ok (.aload_n 1, 1) := by decide +kernel
theorem dX4_leafValue_8 : decode cX4_leafValue 8 = .ok (.getfield 57, 3) := by decide +kernel
theorem dX4_leafValue_11 : decode cX4_leafValue 11 = .ok (.bipush 17, 2) := by decide +kernel
theorem dX4_leafValue_13 : decode cX4_leafValue 13 = .ok (.if_icmp .ge 24, 3) := by decide +kernel
theorem dX4_leafValue_16 : decode cX4_leafValue 16 = .ok (.iload_n 2, 1) := by decide +kernel
theorem dX4_leafValue_17 : decode cX4_leafValue 17 = .ok (.ifCond .lt 20, 3) := by decide +kernel
theorem dX4_leafValue_20 : decode cX4_leafValue 20 = .ok (.iload_n 2, 1) := by decide +kernel
theorem dX4_leafValue_21 : decode cX4_leafValue 21 = .ok (.iconst 3, 1) := by decide +kernel
theorem dX4_leafValue_22 : decode cX4_leafValue 22 = .ok (.if_icmp .gt 15, 3) := by decide +kernel
theorem dX4_leafValue_25 : decode cX4_leafValue 25 = .ok (.aload_n 0, 1) := by decide +kernel
theorem dX4_leafValue_26 : decode cX4_leafValue 26 = .ok (.getfield 25, 3) := by decide +kernel
theorem dX4_leafValue_29 : decode cX4_leafValue 29 = .ok (.iload_n 2, 1) := by decide +kernel
theorem dX4_leafValue_30 : decode cX4_leafValue 30 = .ok (.aaload, 1) := by decide +kernel
theorem dX4_leafValue_31 : decode cX4_leafValue 31 = .ok (.aload_n 1, 1) := by decide +kernel
theorem dX4_leafValue_32 : decode cX4_leafValue 32 = .ok (.getfield 57, 3) := by decide +kernel
theorem dX4_leafValue_35 : decode cX4_leafValue 35 = .ok (.iaload, 1) := by decide +kernel
theorem dX4_leafValue_36 : decode cX4_leafValue 36 = .ok (.ireturn, 1) := by decide +kernel
theorem dX4_leafValue_37 : decode cX4_leafValue 37 = .ok (.aload_n 1, 1) := by decide +kernel
theorem dX4_leafValue_38 : decode cX4_leafValue 38 = .ok (.getfield 48, 3) := by decide +kernel
theorem dX4_leafValue_41 : decode cX4_leafValue 41 = .ok (.lookupswitch 41 #[(35, 35), (46, 39), (126, 37)], 35) := by decide +kernel
theorem dX4_leafValue_76 : decode cX4_leafValue 76 = .ok (.iconst 0, 1) := by decide +kernel
theorem dX4_leafValue_77 : decode cX4_leafValue 77 = .ok (.ireturn, 1) := by decide +kernel
theorem dX4_leafValue_78 : decode cX4_leafValue 78 = .ok (.iconst 1, 1) := by decide +kernel
theorem dX4_leafValue_79 : decode cX4_leafValue 79 = .ok (.ireturn, 1) := by decide +kernel
theorem dX4_leafValue_80 : decode cX4_leafValue 80 = .ok (.iconst 2, 1) := by decide +kernel
theorem dX4_leafValue_81 : decode cX4_leafValue 81 = .ok (.ireturn, 1) := by decide +kernel
theorem dX4_leafValue_82 : decode cX4_leafValue 82 = .ok (.iconst 3, 1) := by decide +kernel
theorem dX4_leafValue_83 : decode cX4_leafValue 83 = .ok (.aload_n 1, 1) := by decide +kernel
theorem dX4_leafValue_84 : decode cX4_leafValue 84 = .ok (.getfield 48, 3) := by decide +kernel
theorem dX4_leafValue_87 : decode cX4_leafValue 87 = .ok (.iadd, 1) := by decide +kernel
theorem dX4_leafValue_88 : decode cX4_leafValue 88 = .ok (.bipush 48, 2) := by decide +kernel
theorem dX4_leafValue_90 : decode cX4_leafValue 90 = .ok (.isub, 1) := by decide +kernel
theorem dX4_leafValue_91 : decode cX4_leafValue 91 = .ok (.ireturn, 1) := by decide +kernel
set_option maxRecDepth 20000 in
set_option maxHeartbeats 4000000 in
theorem w_X4_leafValue {c : cX} {d : Nat} {C : cS} {K : Option Value → cS → Prop} (t : Nat) (p0 : Option Nat) (p1 : Int32) (h : ∃ a1 : Nat, p0 = some a1 ∧ (cT C a1 5 7 ∧ (((cI C a1 3) < 0 → (cG c eX4_leafValue d (cQ K) 37 [none, some (va_rf p0), none] [] C)) ∧ (¬ (cI C a1 3) < 0 → ((17 ≤ (cI C a1 3) → (cG c eX4_leafValue d (cQ K) 37 [none, some (va_rf p0), none] [] C)) ∧ (¬ 17 ≤ (cI C a1 3) → ((p1 < 0 → (cG c eX4_leafValue d (cQ K) 37 [none, some (va_rf p0), none] [] C)) ∧ (¬ p1 < 0 → ((3 < p1 → (cG c eX4_leafValue d (cQ K) 37 [none, some (va_rf p0), none] [] C)) ∧ (¬ 3 < p1 → (cT C t 4 6 ∧ (∃ a9 : Nat, (cR C t 3) = some a9 ∧ (∃ n12 : Nat, cT C a9 24 n12 ∧ (∃ j13 : Nat, am_ix p1 j13 n12 ∧ (∃ a15 : Nat, (cR C a9 j13) = some a15 ∧ (∃ n18 : Nat, cT C a15 20 n18 ∧ (∃ j19 : Nat, am_ix (cI C a1 3) j19 n18 ∧ (K (some (.int (cI C a15 j19))) C)))))))))))))))))) : cM c d eX4_leafValue [.ref t, va_rf p0, .int p1] C K := by
  refine cM.of2 (lv := [some (.ref t), some (va_rf p0), some (.int p1)]) (by decide) (by simp only [am_sl_i, am_sl_r, am_sl_l, am_sl_o, am_sl_n]; exact Nat.le_of_ble_eq_true rfl) (by simp only [am_en, am_sl_i, am_sl_r, am_sl_l, am_sl_o, am_sl_n]; rfl) ?_
  refine ag_aload_n dX4_leafValue_0 rfl (va_rf_or _) ?_
  obtain ⟨a1, hr2, h⟩ := h
  refine cr_stk (st' := [.ref a1]) (by rw [hr2]; rfl) ?_
  obtain ⟨hT3, h⟩ := h
  refine cr_get (v := .int (cI C a1 3)) dX4_leafValue_1 fw_4_57 hT3 rfl ?_
  refine ag_if_lt (tgt := 37) dX4_leafValue_4 rfl (fun hc4 => ?_) (fun hc4 => ?_)
  · have h := h.1 hc4
    refine ag_drop 0 ?_
    refine ag_drop 2 ?_
    exact h
  · have h := h.2 hc4
    refine ag_aload_n dX4_leafValue_7 rfl (va_rf_or _) ?_
    refine cr_stk (st' := [.ref a1]) (by rw [hr2]; rfl) ?_
    refine cr_get (v := .int (cI C a1 3)) dX4_leafValue_8 fw_4_57 hT3 rfl ?_
    refine ag_bipush (v := 17) dX4_leafValue_11 (by decide) ?_
    refine ag_icmp_ge (tgt := 37) dX4_leafValue_13 rfl (fun hc5 => ?_) (fun hc5 => ?_)
    · have h := h.1 hc5
      refine ag_drop 0 ?_
      refine ag_drop 2 ?_
      exact h
    · have h := h.2 hc5
      refine ag_iload_n dX4_leafValue_16 rfl ?_
      refine ag_if_lt (tgt := 37) dX4_leafValue_17 rfl (fun hc6 => ?_) (fun hc6 => ?_)
      · have h := h.1 hc6
        refine ag_drop 0 ?_
        refine ag_drop 2 ?_
        exact h
      · have h := h.2 hc6
        refine ag_iload_n dX4_leafValue_20 rfl ?_
        refine ag_iconst (v := 3) dX4_leafValue_21 rfl ?_
        refine ag_icmp_gt (tgt := 37) dX4_leafValue_22 rfl (fun hc7 => ?_) (fun hc7 => ?_)
        · have h := h.1 hc7
          refine ag_drop 0 ?_
          refine ag_drop 2 ?_
          exact h
        · have h := h.2 hc7
          refine ag_aload_n dX4_leafValue_25 rfl (Or.inr ⟨_, rfl⟩) ?_
          obtain ⟨hT8, h⟩ := h
          refine cr_get (v := va_rf (cR C t 3)) dX4_leafValue_26 fw_4_25 hT8 rfl ?_
          refine ag_iload_n dX4_leafValue_29 rfl ?_
          obtain ⟨a9, hr10, h⟩ := h
          refine cr_stk (st' := [.int p1, .ref a9]) (by rw [hr10]; rfl) ?_
          obtain ⟨n12, hT11, h⟩ := h
          obtain ⟨j13, hj14, h⟩ := h
          refine cr_al (r := (cR C a9 j13)) dX4_leafValue_30 hT11 (by decide) hj14 rfl ?_
          refine ag_aload_n dX4_leafValue_31 rfl (va_rf_or _) ?_
          refine cr_stk (st' := [.ref a1, va_rf (cR C a9 j13)]) (by rw [hr2]; rfl) ?_
          refine cr_get (v := .int (cI C a1 3)) dX4_leafValue_32 fw_4_57 hT3 rfl ?_
          obtain ⟨a15, hr16, h⟩ := h
          refine cr_stk (st' := [.int (cI C a1 3), .ref a15]) (by rw [hr16]; rfl) ?_
          obtain ⟨n18, hT17, h⟩ := h
          obtain ⟨j19, hj20, h⟩ := h
          refine cr_il (v := (cI C a15 j19)) dX4_leafValue_35 hT17 hj20 rfl ?_
          exact ag_ret (v := some (.int (cI C a15 j19))) dX4_leafValue_36 ⟨_, rfl, rfl⟩ ⟨_, rfl, _, rfl, h⟩ rfl
set_option maxRecDepth 20000 in
set_option maxHeartbeats 4000000 in
theorem w_X4_leafValue_37 {c : cX} {d : Nat} {C : cS} {K : Option Value → cS → Prop} (v1 : Option Nat) (h : ∃ a1 : Nat, v1 = some a1 ∧ (cT C a1 5 7 ∧ (((cI C a1 0) = 35 → (K (some (.int 0)) C)) ∧ ((cI C a1 0) = 46 → (K (some (.int 2)) C)) ∧ ((cI C a1 0) = 126 → (K (some (.int 1)) C)) ∧ (¬ (cI C a1 0) = 35 ∧ ¬ (cI C a1 0) = 46 ∧ ¬ (cI C a1 0) = 126 → (K (some (.int ((3 + (cI C a1 0)) - 48))) C))))) : cG c eX4_leafValue d (cQ K) 37 [none, some (va_rf v1), none] [] C := by
  refine ag_aload_n dX4_leafValue_37 rfl (va_rf_or _) ?_
  obtain ⟨a1, hr2, h⟩ := h
  refine cr_stk (st' := [.ref a1]) (by rw [hr2]; rfl) ?_
  obtain ⟨hT3, h⟩ := h
  refine cr_get (v := .int (cI C a1 0)) dX4_leafValue_38 fw_4_48 hT3 rfl ?_
  obtain ⟨q4, q5, q6, q7⟩ := h
  by_cases hk8 : (cI C a1 0) = 35
  · refine ag_lookup (tgt := 76) (off := 35) dX4_leafValue_41 (by decide) (by rw [hk8]; decide) rfl ?_
    have h := q4 hk8
    refine ag_iconst (v := 0) dX4_leafValue_76 rfl ?_
    exact ag_ret (v := some (.int 0)) dX4_leafValue_77 ⟨_, rfl, rfl⟩ ⟨_, rfl, _, rfl, h⟩ rfl
  · by_cases hk9 : (cI C a1 0) = 46
    · refine ag_lookup (tgt := 80) (off := 39) dX4_leafValue_41 (by decide) (by rw [lv_osw (k := 35) hk8 (by decide)]; rw [hk9]; decide) rfl ?_
      have h := q5 hk9
      refine ag_iconst (v := 2) dX4_leafValue_80 rfl ?_
      exact ag_ret (v := some (.int 2)) dX4_leafValue_81 ⟨_, rfl, rfl⟩ ⟨_, rfl, _, rfl, h⟩ rfl
    · by_cases hk10 : (cI C a1 0) = 126
      · refine ag_lookup (tgt := 78) (off := 37) dX4_leafValue_41 (by decide) (by rw [lv_osw (k := 35) hk8 (by decide)]; rw [lv_osw (k := 46) hk9 (by decide)]; rw [hk10]; decide) rfl ?_
        have h := q6 hk10
        refine ag_iconst (v := 1) dX4_leafValue_78 rfl ?_
        exact ag_ret (v := some (.int 1)) dX4_leafValue_79 ⟨_, rfl, rfl⟩ ⟨_, rfl, _, rfl, h⟩ rfl
      · refine ag_lookup (tgt := 82) (off := 41) dX4_leafValue_41 (by decide) (by rw [lv_osw (k := 35) hk8 (by decide)]; rw [lv_osw (k := 46) hk9 (by decide)]; rw [lv_osw (k := 126) hk10 (by decide)]; rfl) rfl ?_
        have h := q7 ⟨hk8, hk9, hk10⟩
        refine ag_iconst (v := 3) dX4_leafValue_82 rfl ?_
        refine ag_aload_n dX4_leafValue_83 rfl (va_rf_or _) ?_
        refine cr_stk (st' := [.ref a1, .int 3]) (by rw [hr2]; rfl) ?_
        refine cr_get (v := .int (cI C a1 0)) dX4_leafValue_84 fw_4_48 hT3 rfl ?_
        refine ag_iadd dX4_leafValue_87 rfl ?_
        refine ag_bipush (v := 48) dX4_leafValue_88 (by decide) ?_
        refine ag_isub dX4_leafValue_90 rfl ?_
        exact ag_ret (v := some (.int ((3 + (cI C a1 0)) - 48))) dX4_leafValue_91 ⟨_, rfl, rfl⟩ ⟨_, rfl, _, rfl, h⟩ rfl
theorem dX4_assign_0 : decode cX4_assign 0 = .ok (.iload_n 2, 1) := by decide +kernel
theorem dX4_assign_1 : decode cX4_assign 1 = .ok (.ifCond .lt 18, 3) := by decide +kernel
theorem dX4_assign_4 : decode cX4_assign 4 = .ok (.iload_n 2, 1) := by decide +kernel
theorem dX4_assign_5 : decode cX4_assign 5 = .ok (.bipush 17, 2) := by decide +kernel
theorem dX4_assign_7 : decode cX4_assign 7 = .ok (.if_icmp .ge 12, 3) := by decide +kernel
theorem dX4_assign_10 : decode cX4_assign 10 = .ok (.iload_n 1, 1) := by decide +kernel
theorem dX4_assign_11 : decode cX4_assign 11 = .ok (.ifCond .lt 8, 3) := by decide +kernel
theorem dX4_assign_14 : decode cX4_assign 14 = .ok (.iload_n 1, 1) := by decide +kernel
theorem dX4_assign_15 : decode cX4_assign 15 = .ok (.iconst 3, 1) := by decide +kernel
theorem dX4_assign_16 : decode cX4_assign 16 = .ok (.if_icmp .le 5, 3) := by decide +kernel
theorem dX4_assign_19 : decode cX4_assign 19 = .ok (.iconst 0, 1) := by decide +kernel
theorem dX4_assign_20 : decode cX4_assign 20 = .ok (.ireturn, 1) := by decide +kernel
theorem dX4_assign_21 : decode cX4_assign 21 = .ok (.aload_n 0, 1) := by decide +kernel
theorem dX4_assign_22 : decode cX4_assign 22 = .ok (.getfield 25, 3) := by decide +kernel
theorem dX4_assign_25 : decode cX4_assign 25 = .ok (.iload_n 1, 1) := by decide +kernel
theorem dX4_assign_26 : decode cX4_assign 26 = .ok (.aaload, 1) := by decide +kernel
theorem dX4_assign_27 : decode cX4_assign 27 = .ok (.iload_n 2, 1) := by decide +kernel
theorem dX4_assign_28 : decode cX4_assign 28 = .ok (.iload_n 3, 1) := by decide +kernel
theorem dX4_assign_29 : decode cX4_assign 29 = .ok (.iastore, 1) := by decide +kernel
theorem dX4_assign_30 : decode cX4_assign 30 = .ok (.iconst 1, 1) := by decide +kernel
theorem dX4_assign_31 : decode cX4_assign 31 = .ok (.ireturn, 1) := by decide +kernel
set_option maxRecDepth 20000 in
set_option maxHeartbeats 4000000 in
theorem w_X4_assign {c : cX} {d : Nat} {C : cS} {K : Option Value → cS → Prop} (t : Nat) (p0 : Int32) (p1 : Int32) (p2 : Int32) (h : (p1 < 0 → (K (some (.int 0)) C)) ∧ (¬ p1 < 0 → ((17 ≤ p1 → (K (some (.int 0)) C)) ∧ (¬ 17 ≤ p1 → ((p0 < 0 → (K (some (.int 0)) C)) ∧ (¬ p0 < 0 → ((p0 ≤ 3 → (cT C t 4 6 ∧ (∃ a6 : Nat, (cR C t 3) = some a6 ∧ (∃ n9 : Nat, cT C a6 24 n9 ∧ (∃ j10 : Nat, am_ix p0 j10 n9 ∧ (∃ a12 : Nat, (cR C a6 j10) = some a12 ∧ (∃ n15 : Nat, cT C a12 20 n15 ∧ (∃ j16 : Nat, am_ix p1 j16 n15 ∧ (K (some (.int 1)) (csi C a12 j16 p2)))))))))) ∧ (¬ p0 ≤ 3 → (K (some (.int 0)) C))))))))) : cM c d eX4_assign [.ref t, .int p0, .int p1, .int p2] C K := by
  refine cM.of2 (lv := [some (.ref t), some (.int p0), some (.int p1), some (.int p2)]) (by decide) (Nat.le_of_ble_eq_true rfl) rfl ?_
  refine ag_iload_n dX4_assign_0 rfl ?_
  refine ag_if_lt (tgt := 19) dX4_assign_1 rfl (fun hc1 => ?_) (fun hc1 => ?_)
  · have h := h.1 hc1
    refine ag_iconst (v := 0) dX4_assign_19 rfl ?_
    exact ag_ret (v := some (.int 0)) dX4_assign_20 ⟨_, rfl, rB_n (Or.inl rfl)⟩ ⟨_, rfl, _, rfl, h⟩ rfl
  · have h := h.2 hc1
    refine ag_iload_n dX4_assign_4 rfl ?_
    refine ag_bipush (v := 17) dX4_assign_5 (by decide) ?_
    refine ag_icmp_ge (tgt := 19) dX4_assign_7 rfl (fun hc2 => ?_) (fun hc2 => ?_)
    · have h := h.1 hc2
      refine ag_iconst (v := 0) dX4_assign_19 rfl ?_
      exact ag_ret (v := some (.int 0)) dX4_assign_20 ⟨_, rfl, rB_n (Or.inl rfl)⟩ ⟨_, rfl, _, rfl, h⟩ rfl
    · have h := h.2 hc2
      refine ag_iload_n dX4_assign_10 rfl ?_
      refine ag_if_lt (tgt := 19) dX4_assign_11 rfl (fun hc3 => ?_) (fun hc3 => ?_)
      · have h := h.1 hc3
        refine ag_iconst (v := 0) dX4_assign_19 rfl ?_
        exact ag_ret (v := some (.int 0)) dX4_assign_20 ⟨_, rfl, rB_n (Or.inl rfl)⟩ ⟨_, rfl, _, rfl, h⟩ rfl
      · have h := h.2 hc3
        refine ag_iload_n dX4_assign_14 rfl ?_
        refine ag_iconst (v := 3) dX4_assign_15 rfl ?_
        refine ag_icmp_le (tgt := 21) dX4_assign_16 rfl (fun hc4 => ?_) (fun hc4 => ?_)
        · have h := h.1 hc4
          refine ag_aload_n dX4_assign_21 rfl (Or.inr ⟨_, rfl⟩) ?_
          obtain ⟨hT5, h⟩ := h
          refine cr_get (v := va_rf (cR C t 3)) dX4_assign_22 fw_4_25 hT5 rfl ?_
          refine ag_iload_n dX4_assign_25 rfl ?_
          obtain ⟨a6, hr7, h⟩ := h
          refine cr_stk (st' := [.int p0, .ref a6]) (by rw [hr7]; rfl) ?_
          obtain ⟨n9, hT8, h⟩ := h
          obtain ⟨j10, hj11, h⟩ := h
          refine cr_al (r := (cR C a6 j10)) dX4_assign_26 hT8 (by decide) hj11 rfl ?_
          refine ag_iload_n dX4_assign_27 rfl ?_
          refine ag_iload_n dX4_assign_28 rfl ?_
          obtain ⟨a12, hr13, h⟩ := h
          refine cr_stk (st' := [.int p2, .int p1, .ref a12]) (by rw [hr13]; rfl) ?_
          obtain ⟨n15, hT14, h⟩ := h
          obtain ⟨j16, hj17, h⟩ := h
          refine cr_is (C2 := (csi C a12 j16 p2)) dX4_assign_29 hT14 hj17 rfl ?_
          refine ag_iconst (v := 1) dX4_assign_30 rfl ?_
          exact ag_ret (v := some (.int 1)) dX4_assign_31 ⟨_, rfl, rB_n (Or.inr rfl)⟩ ⟨_, rfl, _, rfl, h⟩ rfl
        · have h := h.2 hc4
          refine ag_iconst (v := 0) dX4_assign_19 rfl ?_
          exact ag_ret (v := some (.int 0)) dX4_assign_20 ⟨_, rfl, rB_n (Or.inl rfl)⟩ ⟨_, rfl, _, rfl, h⟩ rfl
theorem dX4_applyToOne_0 : decode cX4_applyToOne 0 = .ok (.iload_n 1, 1) := by decide +kernel
theorem dX4_applyToOne_1 : decode cX4_applyToOne 1 = .ok (.bipush 33, 2) := by decide +kernel
theorem dX4_applyToOne_3 : decode cX4_applyToOne 3 = .ok (.if_icmp .ne 14, 3) := by decide +kernel
theorem dX4_applyToOne_6 : decode cX4_applyToOne 6 = .ok (.iload_n 2, 1) := by decide +kernel
theorem dX4_applyToOne_7 : decode cX4_applyToOne 7 = .ok (.iconst 1, 1) := by decide +kernel
theorem dX4_applyToOne_8 : decode cX4_applyToOne 8 = .ok (.if_icmp .ne 7, 3) := by decide +kernel
theorem dX4_applyToOne_11 : decode cX4_applyToOne 11 = .ok (.iconst 0, 1) := by decide +kernel
theorem dX4_applyToOne_12 : decode cX4_applyToOne 12 = .ok (.goto 4, 3) := by decide +kernel
theorem dX4_applyToOne_15 : decode cX4_applyToOne 15 = .ok (.iconst 1, 1) := by decide +kernel
theorem dX4_applyToOne_16 : decode cX4_applyToOne 16 = .ok (.ireturn, 1) := by decide +kernel
theorem dX4_applyToOne_17 : decode cX4_applyToOne 17 = .ok (.iload_n 1, 1) := by decide +kernel
theorem dX4_applyToOne_18 : decode cX4_applyToOne 18 = .ok (.bipush 65, 2) := by decide +kernel
theorem dX4_applyToOne_20 : decode cX4_applyToOne 20 = .ok (.if_icmp .eq 30, 3) := by decide +kernel
theorem dX4_applyToOne_23 : decode cX4_applyToOne 23 = .ok (.iload_n 1, 1) := by decide +kernel
theorem dX4_applyToOne_24 : decode cX4_applyToOne 24 = .ok (.bipush 68, 2) := by decide +kernel
theorem dX4_applyToOne_26 : decode cX4_applyToOne 26 = .ok (.if_icmp .eq 24, 3) := by decide +kernel
theorem dX4_applyToOne_29 : decode cX4_applyToOne 29 = .ok (.aload_n 0, 1) := by decide +kernel
theorem dX4_applyToOne_30 : decode cX4_applyToOne 30 = .ok (.getfield 9, 3) := by decide +kernel
theorem dX4_applyToOne_33 : decode cX4_applyToOne 33 = .ok (.iload_n 2, 1) := by decide +kernel
theorem dX4_applyToOne_34 : decode cX4_applyToOne 34 = .ok (.iload_n 1, 1) := by decide +kernel
theorem dX4_applyToOne_35 : decode cX4_applyToOne 35 = .ok (.invokestatic 85, 3) := by decide +kernel
theorem dX4_applyToOne_38 : decode cX4_applyToOne 38 = .ok (.invokevirtual 89, 3) := by decide +kernel
theorem dX4_applyToOne_41 : decode cX4_applyToOne 41 = .ok (.ifCond .eq 7, 3) := by decide +kernel
theorem dX4_applyToOne_44 : decode cX4_applyToOne 44 = .ok (.iconst 0, 1) := by decide +kernel
theorem dX4_applyToOne_45 : decode cX4_applyToOne 45 = .ok (.goto 4, 3) := by decide +kernel
theorem dX4_applyToOne_48 : decode cX4_applyToOne 48 = .ok (.iconst 1, 1) := by decide +kernel
theorem dX4_applyToOne_49 : decode cX4_applyToOne 49 = .ok (.ireturn, 1) := by decide +kernel
theorem dX4_applyToOne_50 : decode cX4_applyToOne 50 = .ok (.aload_n 0, 1) := by decide +kernel
theorem dX4_applyToOne_51 : decode cX4_applyToOne 51 = .ok (.getfield 9, 3) := by decide +kernel
theorem dX4_applyToOne_54 : decode cX4_applyToOne 54 = .ok (.iload_n 2, 1) := by decide +kernel
theorem dX4_applyToOne_55 : decode cX4_applyToOne 55 = .ok (.bipush 16, 2) := by decide +kernel
theorem dX4_applyToOne_57 : decode cX4_applyToOne 57 = .ok (.invokevirtual 89, 3) := by decide +kernel
theorem dX4_applyToOne_60 : decode cX4_applyToOne 60 = .ok (.ifCond .ne 9, 3) := by decide +kernel
theorem dX4_applyToOne_63 : decode cX4_applyToOne 63 = .ok (.aload_n 0, 1) := by decide +kernel
theorem dX4_applyToOne_64 : decode cX4_applyToOne 64 = .ok (.iconst 2, 1) := by decide +kernel
theorem dX4_applyToOne_65 : decode cX4_applyToOne 65 = .ok (.invokevirtual 95, 3) := by decide +kernel
theorem dX4_applyToOne_68 : decode cX4_applyToOne 68 = .ok (.ireturn, 1) := by decide +kernel
theorem dX4_applyToOne_69 : decode cX4_applyToOne 69 = .ok (.aload_n 0, 1) := by decide +kernel
theorem dX4_applyToOne_70 : decode cX4_applyToOne 70 = .ok (.getfield 9, 3) := by decide +kernel
theorem dX4_applyToOne_73 : decode cX4_applyToOne 73 = .ok (.iload_n 2, 1) := by decide +kernel
theorem dX4_applyToOne_74 : decode cX4_applyToOne 74 = .ok (.iload_n 1, 1) := by decide +kernel
theorem dX4_applyToOne_75 : decode cX4_applyToOne 75 = .ok (.bipush 65, 2) := by decide +kernel
theorem dX4_applyToOne_77 : decode cX4_applyToOne 77 = .ok (.if_icmp .ne 7, 3) := by decide +kernel
theorem dX4_applyToOne_80 : decode cX4_applyToOne 80 = .ok (.iconst 2, 1) := by decide +kernel
theorem dX4_applyToOne_81 : decode cX4_applyToOne 81 = .ok (.goto 4, 3) := by decide +kernel
theorem dX4_applyToOne_84 : decode cX4_applyToOne 84 = .ok (.iconst 3, 1) := by decide +kernel
theorem dX4_applyToOne_85 : decode cX4_applyToOne 85 = .ok (.invokevirtual 98, 3) := by decide +kernel
theorem dX4_applyToOne_88 : decode cX4_applyToOne 88 = .ok (.ireturn, 1) := by decide +kernel
set_option maxRecDepth 20000 in
set_option maxHeartbeats 4000000 in
theorem w_X4_applyToOne {c : cX} {d : Nat} {C : cS} {K : Option Value → cS → Prop} (t : Nat) (p0 : Int32) (p1 : Int32) (h : (¬ p0 = 33 → ((p0 = 65 → (cG c eX4_applyToOne (d + 1) (cQ K) 50 [some (.ref t), some (.int p0), some (.int p1)] [] C)) ∧ (¬ p0 = 65 → ((p0 = 68 → (cG c eX4_applyToOne (d + 1) (cQ K) 50 [some (.ref t), some (.int p0), some (.int p1)] [] C)) ∧ (¬ p0 = 68 → (cT C t 4 6 ∧ (cM c d eX9_testedKinds [.int p0] C (fun v C5 => ∃ z6 : Int32, v = some (.int z6) ∧ cle C C5 ∧ (∃ a9 : Nat, (cR C t 0) = some a9 ∧ (cT C5 a9 0 6 ∧ (cM c d eX0_isOf (.ref a9 :: [.int p1, .int z6]) C5 (fun v C11 => ∃ z12 : Int32, v = some (.int z12) ∧ cle C5 C11 ∧ ((z12 = 0 → (K (some (.int 1)) C11)) ∧ (¬ z12 = 0 → (K (some (.int 0)) C11))))))))))))))) ∧ (p0 = 33 → ((¬ p1 = 1 → (K (some (.int 1)) C)) ∧ (p1 = 1 → (K (some (.int 0)) C))))) : cM c (d + 1) eX4_applyToOne [.ref t, .int p0, .int p1] C K := by
  refine cM.of2 (lv := [some (.ref t), some (.int p0), some (.int p1)]) (by decide) (Nat.le_of_ble_eq_true rfl) rfl ?_
  refine ag_iload_n dX4_applyToOne_0 rfl ?_
  refine ag_bipush (v := 33) dX4_applyToOne_1 (by decide) ?_
  refine ag_icmp_ne (tgt := 17) dX4_applyToOne_3 rfl (fun hc1 => ?_) (fun hc1 => ?_)
  · have h := h.1 hc1
    refine ag_iload_n dX4_applyToOne_17 rfl ?_
    refine ag_bipush (v := 65) dX4_applyToOne_18 (by decide) ?_
    refine ag_icmp_eq (tgt := 50) dX4_applyToOne_20 rfl (fun hc2 => ?_) (fun hc2 => ?_)
    · have h := h.1 hc2
      exact h
    · have h := h.2 hc2
      refine ag_iload_n dX4_applyToOne_23 rfl ?_
      refine ag_bipush (v := 68) dX4_applyToOne_24 (by decide) ?_
      refine ag_icmp_eq (tgt := 50) dX4_applyToOne_26 rfl (fun hc3 => ?_) (fun hc3 => ?_)
      · have h := h.1 hc3
        exact h
      · have h := h.2 hc3
        refine ag_aload_n dX4_applyToOne_29 rfl (Or.inr ⟨_, rfl⟩) ?_
        obtain ⟨hT4, h⟩ := h
        refine cr_get (v := va_rf (cR C t 0)) dX4_applyToOne_30 fw_4_9 hT4 rfl ?_
        refine ag_iload_n dX4_applyToOne_33 rfl ?_
        refine ag_iload_n dX4_applyToOne_34 rfl ?_
        refine cr_callSN (as := [.int p0]) (rest := [.int p1, va_rf (cR C t 0)]) dX4_applyToOne_35 me_X9_testedKinds ms_X9_testedKinds ln_4_85 rfl rfl (by simp only [List.map_cons, List.map_nil, List.sum_cons, List.sum_nil, va_rf_cat, am_ci, am_cl, am_cr, am_cn]; decide) ?_
        refine cM.mono h ?_
        rintro v C5 ⟨z6, rfl, hL7, h⟩
        have hT8 := cT.le (C := C) hT4 hL7
        show cG _ _ _ _ _ _ [.int z6, .int p1, va_rf (cR C t 0)] _
        obtain ⟨a9, hr10, h⟩ := h
        refine cr_stk (st' := [.int z6, .int p1, .ref a9]) (by rw [hr10]; rfl) ?_
        obtain ⟨hT14, h⟩ := h
        refine cr_callV (as := [.int p1, .int z6]) (rest := []) dX4_applyToOne_38 me_X0_isOf mi_X0_isOf lk_4_89 hT14 rfl rfl (Nat.le_of_ble_eq_true rfl) ?_
        refine cM.mono h ?_
        rintro v C11 ⟨z12, rfl, hL13, h⟩
        have hT15 := cT.le (C := C5) hT8 hL13
        have hT16 := cT.le (C := C5) hT14 hL13
        show cG _ _ _ _ _ _ [.int z12] _
        refine ag_if_eq (tgt := 48) dX4_applyToOne_41 rfl (fun hc17 => ?_) (fun hc17 => ?_)
        · have h := h.1 hc17
          refine ag_iconst (v := 1) dX4_applyToOne_48 rfl ?_
          exact ag_ret (v := some (.int 1)) dX4_applyToOne_49 ⟨_, rfl, rfl⟩ ⟨_, rfl, _, rfl, h⟩ rfl
        · have h := h.2 hc17
          refine ag_iconst (v := 0) dX4_applyToOne_44 rfl ?_
          refine ag_goto (tgt := 49) dX4_applyToOne_45 rfl ?_
          exact ag_ret (v := some (.int 0)) dX4_applyToOne_49 ⟨_, rfl, rfl⟩ ⟨_, rfl, _, rfl, h⟩ rfl
  · have h := h.2 hc1
    refine ag_iload_n dX4_applyToOne_6 rfl ?_
    refine ag_iconst (v := 1) dX4_applyToOne_7 rfl ?_
    refine ag_icmp_ne (tgt := 15) dX4_applyToOne_8 rfl (fun hc18 => ?_) (fun hc18 => ?_)
    · have h := h.1 hc18
      refine ag_iconst (v := 1) dX4_applyToOne_15 rfl ?_
      exact ag_ret (v := some (.int 1)) dX4_applyToOne_16 ⟨_, rfl, rfl⟩ ⟨_, rfl, _, rfl, h⟩ rfl
    · have h := h.2 hc18
      refine ag_iconst (v := 0) dX4_applyToOne_11 rfl ?_
      refine ag_goto (tgt := 16) dX4_applyToOne_12 rfl ?_
      exact ag_ret (v := some (.int 0)) dX4_applyToOne_16 ⟨_, rfl, rfl⟩ ⟨_, rfl, _, rfl, h⟩ rfl
set_option maxRecDepth 20000 in
set_option maxHeartbeats 4000000 in
theorem w_X4_applyToOne_50 {c : cX} {d : Nat} {C : cS} {K : Option Value → cS → Prop} (t : Nat) (v1 : Int32) (v2 : Int32) (h : cT C t 4 6 ∧ (∃ a2 : Nat, (cR C t 0) = some a2 ∧ (cT C a2 0 6 ∧ (cM c d eX0_isOf (.ref a2 :: [.int v2, .int 16]) C (fun v C4 => ∃ z5 : Int32, v = some (.int z5) ∧ cle C C4 ∧ ((¬ z5 = 0 → ((¬ v1 = 65 → (∃ a12 : Nat, (cR C4 t 0) = some a12 ∧ (cT C4 a12 0 6 ∧ (cM c d eX0_part (.ref a12 :: [.int v2, .int 3]) C4 (fun v C14 => ∃ z15 : Int32, v = some (.int z15) ∧ cle C4 C14 ∧ (K (some (.int z15)) C14)))))) ∧ (v1 = 65 → (∃ a21 : Nat, (cR C4 t 0) = some a21 ∧ (cT C4 a21 0 6 ∧ (cM c d eX0_part (.ref a21 :: [.int v2, .int 2]) C4 (fun v C23 => ∃ z24 : Int32, v = some (.int z24) ∧ cle C4 C23 ∧ (K (some (.int z24)) C23)))))))) ∧ (z5 = 0 → (cM c d eX4_fail (.ref t :: [.int 2]) C4 (fun v C30 => ∃ z31 : Int32, v = some (.int z31) ∧ cle C4 C30 ∧ (K (some (.int z31)) C30)))))))))) : cG c eX4_applyToOne (d + 1) (cQ K) 50 [some (.ref t), some (.int v1), some (.int v2)] [] C := by
  refine ag_aload_n dX4_applyToOne_50 rfl (Or.inr ⟨_, rfl⟩) ?_
  obtain ⟨hT1, h⟩ := h
  refine cr_get (v := va_rf (cR C t 0)) dX4_applyToOne_51 fw_4_9 hT1 rfl ?_
  refine ag_iload_n dX4_applyToOne_54 rfl ?_
  refine ag_bipush (v := 16) dX4_applyToOne_55 (by decide) ?_
  obtain ⟨a2, hr3, h⟩ := h
  refine cr_stk (st' := [.int 16, .int v2, .ref a2]) (by rw [hr3]; rfl) ?_
  obtain ⟨hT7, h⟩ := h
  refine cr_callV (as := [.int v2, .int 16]) (rest := []) dX4_applyToOne_57 me_X0_isOf mi_X0_isOf lk_4_89 hT7 rfl rfl (Nat.le_of_ble_eq_true rfl) ?_
  refine cM.mono h ?_
  rintro v C4 ⟨z5, rfl, hL6, h⟩
  have hT8 := cT.le (C := C) hT1 hL6
  have hT9 := cT.le (C := C) hT7 hL6
  show cG _ _ _ _ _ _ [.int z5] _
  refine ag_if_ne (tgt := 69) dX4_applyToOne_60 rfl (fun hc10 => ?_) (fun hc10 => ?_)
  · have h := h.1 hc10
    refine ag_aload_n dX4_applyToOne_69 rfl (Or.inr ⟨_, rfl⟩) ?_
    refine cr_get (v := va_rf (cR C4 t 0)) dX4_applyToOne_70 fw_4_9 hT8 rfl ?_
    refine ag_iload_n dX4_applyToOne_73 rfl ?_
    refine ag_iload_n dX4_applyToOne_74 rfl ?_
    refine ag_bipush (v := 65) dX4_applyToOne_75 (by decide) ?_
    refine ag_icmp_ne (tgt := 84) dX4_applyToOne_77 rfl (fun hc11 => ?_) (fun hc11 => ?_)
    · have h := h.1 hc11
      refine ag_iconst (v := 3) dX4_applyToOne_84 rfl ?_
      obtain ⟨a12, hr13, h⟩ := h
      refine cr_stk (st' := [.int 3, .int v2, .ref a12]) (by rw [hr13]; rfl) ?_
      obtain ⟨hT17, h⟩ := h
      refine cr_callV (as := [.int v2, .int 3]) (rest := []) dX4_applyToOne_85 me_X0_part mi_X0_part lk_4_98 hT17 rfl rfl (Nat.le_of_ble_eq_true rfl) ?_
      refine cM.mono h ?_
      rintro v C14 ⟨z15, rfl, hL16, h⟩
      have hT18 := cT.le (C := C4) hT8 hL16
      have hT19 := cT.le (C := C4) hT9 hL16
      have hT20 := cT.le (C := C4) hT17 hL16
      show cG _ _ _ _ _ _ [.int z15] _
      exact ag_ret (v := some (.int z15)) dX4_applyToOne_88 ⟨_, rfl, rfl⟩ ⟨_, rfl, _, rfl, h⟩ rfl
    · have h := h.2 hc11
      refine ag_iconst (v := 2) dX4_applyToOne_80 rfl ?_
      refine ag_goto (tgt := 85) dX4_applyToOne_81 rfl ?_
      obtain ⟨a21, hr22, h⟩ := h
      refine cr_stk (st' := [.int 2, .int v2, .ref a21]) (by rw [hr22]; rfl) ?_
      obtain ⟨hT26, h⟩ := h
      refine cr_callV (as := [.int v2, .int 2]) (rest := []) dX4_applyToOne_85 me_X0_part mi_X0_part lk_4_98 hT26 rfl rfl (Nat.le_of_ble_eq_true rfl) ?_
      refine cM.mono h ?_
      rintro v C23 ⟨z24, rfl, hL25, h⟩
      have hT27 := cT.le (C := C4) hT8 hL25
      have hT28 := cT.le (C := C4) hT9 hL25
      have hT29 := cT.le (C := C4) hT26 hL25
      show cG _ _ _ _ _ _ [.int z24] _
      exact ag_ret (v := some (.int z24)) dX4_applyToOne_88 ⟨_, rfl, rfl⟩ ⟨_, rfl, _, rfl, h⟩ rfl
  · have h := h.2 hc10
    refine ag_aload_n dX4_applyToOne_63 rfl (Or.inr ⟨_, rfl⟩) ?_
    refine ag_iconst (v := 2) dX4_applyToOne_64 rfl ?_
    refine cr_callV (as := [.int 2]) (rest := []) dX4_applyToOne_65 me_X4_fail mi_X4_fail lk_4_95 hT8 rfl rfl (Nat.le_of_ble_eq_true rfl) ?_
    refine cM.mono h ?_
    rintro v C30 ⟨z31, rfl, hL32, h⟩
    have hT33 := cT.le (C := C4) hT8 hL32
    have hT34 := cT.le (C := C4) hT9 hL32
    show cG _ _ _ _ _ _ [.int z31] _
    exact ag_ret (v := some (.int z31)) dX4_applyToOne_68 ⟨_, rfl, rfl⟩ ⟨_, rfl, _, rfl, h⟩ rfl
theorem dX4_applyToTwo_0 : decode cX4_applyToTwo 0 = .ok (.iload_n 3, 1) := by decide +kernel
theorem dX4_applyToTwo_1 : decode cX4_applyToTwo 1 = .ok (.iconst (-1), 1) := by decide +kernel
theorem dX4_applyToTwo_2 : decode cX4_applyToTwo 2 = .ok (.if_icmp .ne 5, 3) := by decide +kernel
theorem dX4_applyToTwo_5 : decode cX4_applyToTwo 5 = .ok (.iconst (-1), 1) := by decide +kernel
theorem dX4_applyToTwo_6 : decode cX4_applyToTwo 6 = .ok (.ireturn, 1) := by decide +kernel
theorem dX4_applyToTwo_7 : decode cX4_applyToTwo 7 = .ok (.iload_n 1, 1) := by decide +kernel
theorem dX4_applyToTwo_8 : decode cX4_applyToTwo 8 = .ok (.bipush 67, 2) := by decide +kernel
theorem dX4_applyToTwo_10 : decode cX4_applyToTwo 10 = .ok (.if_icmp .ne 17, 3) := by decide +kernel
theorem dX4_applyToTwo_13 : decode cX4_applyToTwo 13 = .ok (.aload_n 0, 1) := by decide +kernel
theorem dX4_applyToTwo_14 : decode cX4_applyToTwo 14 = .ok (.aload_n 0, 1) := by decide +kernel
theorem dX4_applyToTwo_15 : decode cX4_applyToTwo 15 = .ok (.getfield 9, 3) := by decide +kernel
theorem dX4_applyToTwo_18 : decode cX4_applyToTwo 18 = .ok (.iload_n 2, 1) := by decide +kernel
theorem dX4_applyToTwo_19 : decode cX4_applyToTwo 19 = .ok (.iload_n 3, 1) := by decide +kernel
theorem dX4_applyToTwo_20 : decode cX4_applyToTwo 20 = .ok (.invokevirtual 101, 3) := by decide +kernel
theorem dX4_applyToTwo_23 : decode cX4_applyToTwo 23 = .ok (.invokevirtual 104, 3) := by decide +kernel
theorem dX4_applyToTwo_26 : decode cX4_applyToTwo 26 = .ok (.ireturn, 1) := by decide +kernel
theorem dX4_applyToTwo_27 : decode cX4_applyToTwo 27 = .ok (.aload_n 0, 1) := by decide +kernel
theorem dX4_applyToTwo_28 : decode cX4_applyToTwo 28 = .ok (.getfield 9, 3) := by decide +kernel
theorem dX4_applyToTwo_31 : decode cX4_applyToTwo 31 = .ok (.iload_n 2, 1) := by decide +kernel
theorem dX4_applyToTwo_32 : decode cX4_applyToTwo 32 = .ok (.iconst 1, 1) := by decide +kernel
theorem dX4_applyToTwo_33 : decode cX4_applyToTwo 33 = .ok (.invokevirtual 89, 3) := by decide +kernel
theorem dX4_applyToTwo_36 : decode cX4_applyToTwo 36 = .ok (.ifCond .eq 15, 3) := by decide +kernel
theorem dX4_applyToTwo_39 : decode cX4_applyToTwo 39 = .ok (.aload_n 0, 1) := by decide +kernel
theorem dX4_applyToTwo_40 : decode cX4_applyToTwo 40 = .ok (.getfield 9, 3) := by decide +kernel
theorem dX4_applyToTwo_43 : decode cX4_applyToTwo 43 = .ok (.iload_n 3, 1) := by decide +kernel
theorem dX4_applyToTwo_44 : decode cX4_applyToTwo 44 = .ok (.iconst 1, 1) := by decide +kernel
theorem dX4_applyToTwo_45 : decode cX4_applyToTwo 45 = .ok (.invokevirtual 89, 3) := by decide +kernel
theorem dX4_applyToTwo_48 : decode cX4_applyToTwo 48 = .ok (.ifCond .ne 9, 3) := by decide +kernel
theorem dX4_applyToTwo_51 : decode cX4_applyToTwo 51 = .ok (.aload_n 0, 1) := by decide +kernel
theorem dX4_applyToTwo_52 : decode cX4_applyToTwo 52 = .ok (.iconst 2, 1) := by decide +kernel
theorem dX4_applyToTwo_53 : decode cX4_applyToTwo 53 = .ok (.invokevirtual 95, 3) := by decide +kernel
theorem dX4_applyToTwo_56 : decode cX4_applyToTwo 56 = .ok (.ireturn, 1) := by decide +kernel
theorem dX4_applyToTwo_57 : decode cX4_applyToTwo 57 = .ok (.aload_n 0, 1) := by decide +kernel
theorem dX4_applyToTwo_58 : decode cX4_applyToTwo 58 = .ok (.getfield 9, 3) := by decide +kernel
theorem dX4_applyToTwo_61 : decode cX4_applyToTwo 61 = .ok (.iload_n 2, 1) := by decide +kernel
theorem dX4_applyToTwo_62 : decode cX4_applyToTwo 62 = .ok (.iconst 1, 1) := by decide +kernel
theorem dX4_applyToTwo_63 : decode cX4_applyToTwo 63 = .ok (.invokevirtual 98, 3) := by decide +kernel
theorem dX4_applyToTwo_66 : decode cX4_applyToTwo 66 = .ok (.istore 4, 2) := by decide +kernel
theorem dX4_applyToTwo_68 : decode cX4_applyToTwo 68 = .ok (.aload_n 0, 1) := by decide +kernel
theorem dX4_applyToTwo_69 : decode cX4_applyToTwo 69 = .ok (.getfield 9, 3) := by decide +kernel
theorem dX4_applyToTwo_72 : decode cX4_applyToTwo 72 = .ok (.iload_n 3, 1) := by decide +kernel
theorem dX4_applyToTwo_73 : decode cX4_applyToTwo 73 = .ok (.iconst 1, 1) := by decide +kernel
theorem dX4_applyToTwo_74 : decode cX4_applyToTwo 74 = .ok (.invokevirtual 98, 3) := by decide +kernel
theorem dX4_applyToTwo_77 : decode cX4_applyToTwo 77 = .ok (.istore 5, 2) := by decide +kernel
theorem dX4_applyToTwo_79 : decode cX4_applyToTwo 79 = .ok (.iload_n 1, 1) := by decide +kernel
theorem dX4_applyToTwo_80 : decode cX4_applyToTwo 80 = .ok (.bipush 60, 2) := by decide +kernel
theorem dX4_applyToTwo_82 : decode cX4_applyToTwo 82 = .ok (.if_icmp .ne 16, 3) := by decide +kernel
theorem dX4_applyToTwo_85 : decode cX4_applyToTwo 85 = .ok (.iload 4, 2) := by decide +kernel
theorem dX4_applyToTwo_87 : decode cX4_applyToTwo 87 = .ok (.iload 5, 2) := by decide +kernel
theorem dX4_applyToTwo_89 : decode cX4_applyToTwo 89 = .ok (.if_icmp .ge 7, 3) := by decide +kernel
theorem dX4_applyToTwo_92 : decode cX4_applyToTwo 92 = .ok (.iconst 0, 1) := by decide +kernel
theorem dX4_applyToTwo_93 : decode cX4_applyToTwo 93 = .ok (.goto 4, 3) := by decide +kernel
theorem dX4_applyToTwo_96 : decode cX4_applyToTwo 96 = .ok (.iconst 1, 1) := by decide +kernel
theorem dX4_applyToTwo_97 : decode cX4_applyToTwo 97 = .ok (.ireturn, 1) := by decide +kernel
theorem dX4_applyToTwo_98 : decode cX4_applyToTwo 98 = .ok (.aload_n 0, 1) := by decide +kernel
theorem dX4_applyToTwo_99 : decode cX4_applyToTwo 99 = .ok (.aload_n 0, 1) := by decide +kernel
theorem dX4_applyToTwo_100 : decode cX4_applyToTwo 100 = .ok (.getfield 9, 3) := by decide +kernel
theorem dX4_applyToTwo_103 : decode cX4_applyToTwo 103 = .ok (.iload_n 1, 1) := by decide +kernel
theorem dX4_applyToTwo_104 : decode cX4_applyToTwo 104 = .ok (.bipush 43, 2) := by decide +kernel
theorem dX4_applyToTwo_106 : decode cX4_applyToTwo 106 = .ok (.if_icmp .ne 11, 3) := by decide +kernel
theorem dX4_applyToTwo_109 : decode cX4_applyToTwo 109 = .ok (.iload 4, 2) := by decide +kernel
theorem dX4_applyToTwo_111 : decode cX4_applyToTwo 111 = .ok (.iload 5, 2) := by decide +kernel
theorem dX4_applyToTwo_113 : decode cX4_applyToTwo 113 = .ok (.iadd, 1) := by decide +kernel
theorem dX4_applyToTwo_114 : decode cX4_applyToTwo 114 = .ok (.goto 8, 3) := by decide +kernel
theorem dX4_applyToTwo_117 : decode cX4_applyToTwo 117 = .ok (.iload 4, 2) := by decide +kernel
theorem dX4_applyToTwo_119 : decode cX4_applyToTwo 119 = .ok (.iload 5, 2) := by decide +kernel
theorem dX4_applyToTwo_121 : decode cX4_applyToTwo 121 = .ok (.isub, 1) := by decide +kernel
theorem dX4_applyToTwo_122 : decode cX4_applyToTwo 122 = .ok (.invokevirtual 107, 3) := by decide +kernel
theorem dX4_applyToTwo_125 : decode cX4_applyToTwo 125 = .ok (.invokevirtual 104, 3) := by decide +kernel
theorem dX4_applyToTwo_128 : decode cX4_applyToTwo 128 = .ok (.ireturn, 1) := by decide +kernel
set_option maxRecDepth 20000 in
set_option maxHeartbeats 4000000 in
theorem w_X4_applyToTwo {c : cX} {d : Nat} {C : cS} {K : Option Value → cS → Prop} (t : Nat) (p0 : Int32) (p1 : Int32) (p2 : Int32) (h : (¬ p2 = (-1) → ((¬ p0 = 67 → (cT C t 4 6 ∧ (∃ a4 : Nat, (cR C t 0) = some a4 ∧ (cT C a4 0 6 ∧ (cM c d eX0_isOf (.ref a4 :: [.int p1, .int 1]) C (fun v C6 => ∃ z7 : Int32, v = some (.int z7) ∧ cle C C6 ∧ ((z7 = 0 → (cM c d eX4_fail (.ref t :: [.int 2]) C6 (fun v C13 => ∃ z14 : Int32, v = some (.int z14) ∧ cle C6 C13 ∧ (K (some (.int z14)) C13)))) ∧ (¬ z7 = 0 → (∃ a18 : Nat, (cR C6 t 0) = some a18 ∧ (cT C6 a18 0 6 ∧ (cM c d eX0_isOf (.ref a18 :: [.int p2, .int 1]) C6 (fun v C20 => ∃ z21 : Int32, v = some (.int z21) ∧ cle C6 C20 ∧ ((¬ z21 = 0 → (∃ a28 : Nat, (cR C20 t 0) = some a28 ∧ (cT C20 a28 0 6 ∧ (cM c d eX0_part (.ref a28 :: [.int p1, .int 1]) C20 (fun v C30 => ∃ z31 : Int32, v = some (.int z31) ∧ cle C20 C30 ∧ (∃ a38 : Nat, (cR C30 t 0) = some a38 ∧ (cT C30 a38 0 6 ∧ (cM c d eX0_part (.ref a38 :: [.int p2, .int 1]) C30 (fun v C40 => ∃ z41 : Int32, v = some (.int z41) ∧ cle C30 C40 ∧ ((¬ p0 = 60 → ((¬ p0 = 43 → (∃ a51 : Nat, (cR C40 t 0) = some a51 ∧ (cT C40 a51 0 6 ∧ (cM c d eX0_addNumber (.ref a51 :: [.int (z31 - z41)]) C40 (fun v C53 => ∃ z54 : Int32, v = some (.int z54) ∧ cle C40 C53 ∧ (cM c d eX4_madeOrFailed (.ref t :: [.int z54]) C53 (fun v C63 => ∃ z64 : Int32, v = some (.int z64) ∧ cle C53 C63 ∧ (K (some (.int z64)) C63)))))))) ∧ (p0 = 43 → (∃ a72 : Nat, (cR C40 t 0) = some a72 ∧ (cT C40 a72 0 6 ∧ (cM c d eX0_addNumber (.ref a72 :: [.int (z31 + z41)]) C40 (fun v C74 => ∃ z75 : Int32, v = some (.int z75) ∧ cle C40 C74 ∧ (cM c d eX4_madeOrFailed (.ref t :: [.int z75]) C74 (fun v C84 => ∃ z85 : Int32, v = some (.int z85) ∧ cle C74 C84 ∧ (K (some (.int z85)) C84)))))))))) ∧ (p0 = 60 → ((z41 ≤ z31 → (K (some (.int 1)) C40)) ∧ (¬ z41 ≤ z31 → (K (some (.int 0)) C40)))))))))))))) ∧ (z21 = 0 → (cM c d eX4_fail (.ref t :: [.int 2]) C20 (fun v C94 => ∃ z95 : Int32, v = some (.int z95) ∧ cle C20 C94 ∧ (K (some (.int z95)) C94))))))))))))))))) ∧ (p0 = 67 → (cT C t 4 6 ∧ (∃ a101 : Nat, (cR C t 0) = some a101 ∧ (cT C a101 0 6 ∧ (cM c d eX0_addPair (.ref a101 :: [.int p1, .int p2]) C (fun v C103 => ∃ z104 : Int32, v = some (.int z104) ∧ cle C C103 ∧ (cM c d eX4_madeOrFailed (.ref t :: [.int z104]) C103 (fun v C109 => ∃ z110 : Int32, v = some (.int z110) ∧ cle C103 C109 ∧ (K (some (.int z110)) C109))))))))))) ∧ (p2 = (-1) → (K (some (.int (-1))) C))) : cM c (d + 1) eX4_applyToTwo [.ref t, .int p0, .int p1, .int p2] C K := by
  refine cM.of2 (lv := [some (.ref t), some (.int p0), some (.int p1), some (.int p2), none, none]) (by decide) (Nat.le_of_ble_eq_true rfl) rfl ?_
  refine ag_iload_n dX4_applyToTwo_0 rfl ?_
  refine ag_iconst (v := (-1)) dX4_applyToTwo_1 rfl ?_
  refine ag_icmp_ne (tgt := 7) dX4_applyToTwo_2 rfl (fun hc1 => ?_) (fun hc1 => ?_)
  · have h := h.1 hc1
    refine ag_iload_n dX4_applyToTwo_7 rfl ?_
    refine ag_bipush (v := 67) dX4_applyToTwo_8 (by decide) ?_
    refine ag_icmp_ne (tgt := 27) dX4_applyToTwo_10 rfl (fun hc2 => ?_) (fun hc2 => ?_)
    · have h := h.1 hc2
      refine ag_aload_n dX4_applyToTwo_27 rfl (Or.inr ⟨_, rfl⟩) ?_
      obtain ⟨hT3, h⟩ := h
      refine cr_get (v := va_rf (cR C t 0)) dX4_applyToTwo_28 fw_4_9 hT3 rfl ?_
      refine ag_iload_n dX4_applyToTwo_31 rfl ?_
      refine ag_iconst (v := 1) dX4_applyToTwo_32 rfl ?_
      obtain ⟨a4, hr5, h⟩ := h
      refine cr_stk (st' := [.int 1, .int p1, .ref a4]) (by rw [hr5]; rfl) ?_
      obtain ⟨hT9, h⟩ := h
      refine cr_callV (as := [.int p1, .int 1]) (rest := []) dX4_applyToTwo_33 me_X0_isOf mi_X0_isOf lk_4_89 hT9 rfl rfl (Nat.le_of_ble_eq_true rfl) ?_
      refine cM.mono h ?_
      rintro v C6 ⟨z7, rfl, hL8, h⟩
      have hT10 := cT.le (C := C) hT3 hL8
      have hT11 := cT.le (C := C) hT9 hL8
      show cG _ _ _ _ _ _ [.int z7] _
      refine ag_if_eq (tgt := 51) dX4_applyToTwo_36 rfl (fun hc12 => ?_) (fun hc12 => ?_)
      · have h := h.1 hc12
        refine ag_aload_n dX4_applyToTwo_51 rfl (Or.inr ⟨_, rfl⟩) ?_
        refine ag_iconst (v := 2) dX4_applyToTwo_52 rfl ?_
        refine cr_callV (as := [.int 2]) (rest := []) dX4_applyToTwo_53 me_X4_fail mi_X4_fail lk_4_95 hT10 rfl rfl (Nat.le_of_ble_eq_true rfl) ?_
        refine cM.mono h ?_
        rintro v C13 ⟨z14, rfl, hL15, h⟩
        have hT16 := cT.le (C := C6) hT10 hL15
        have hT17 := cT.le (C := C6) hT11 hL15
        show cG _ _ _ _ _ _ [.int z14] _
        exact ag_ret (v := some (.int z14)) dX4_applyToTwo_56 ⟨_, rfl, rfl⟩ ⟨_, rfl, _, rfl, h⟩ rfl
      · have h := h.2 hc12
        refine ag_aload_n dX4_applyToTwo_39 rfl (Or.inr ⟨_, rfl⟩) ?_
        refine cr_get (v := va_rf (cR C6 t 0)) dX4_applyToTwo_40 fw_4_9 hT10 rfl ?_
        refine ag_iload_n dX4_applyToTwo_43 rfl ?_
        refine ag_iconst (v := 1) dX4_applyToTwo_44 rfl ?_
        obtain ⟨a18, hr19, h⟩ := h
        refine cr_stk (st' := [.int 1, .int p2, .ref a18]) (by rw [hr19]; rfl) ?_
        obtain ⟨hT23, h⟩ := h
        refine cr_callV (as := [.int p2, .int 1]) (rest := []) dX4_applyToTwo_45 me_X0_isOf mi_X0_isOf lk_4_89 hT23 rfl rfl (Nat.le_of_ble_eq_true rfl) ?_
        refine cM.mono h ?_
        rintro v C20 ⟨z21, rfl, hL22, h⟩
        have hT24 := cT.le (C := C6) hT10 hL22
        have hT25 := cT.le (C := C6) hT11 hL22
        have hT26 := cT.le (C := C6) hT23 hL22
        show cG _ _ _ _ _ _ [.int z21] _
        refine ag_if_ne (tgt := 57) dX4_applyToTwo_48 rfl (fun hc27 => ?_) (fun hc27 => ?_)
        · have h := h.1 hc27
          refine ag_aload_n dX4_applyToTwo_57 rfl (Or.inr ⟨_, rfl⟩) ?_
          refine cr_get (v := va_rf (cR C20 t 0)) dX4_applyToTwo_58 fw_4_9 hT24 rfl ?_
          refine ag_iload_n dX4_applyToTwo_61 rfl ?_
          refine ag_iconst (v := 1) dX4_applyToTwo_62 rfl ?_
          obtain ⟨a28, hr29, h⟩ := h
          refine cr_stk (st' := [.int 1, .int p1, .ref a28]) (by rw [hr29]; rfl) ?_
          obtain ⟨hT33, h⟩ := h
          refine cr_callV (as := [.int p1, .int 1]) (rest := []) dX4_applyToTwo_63 me_X0_part mi_X0_part lk_4_98 hT33 rfl rfl (Nat.le_of_ble_eq_true rfl) ?_
          refine cM.mono h ?_
          rintro v C30 ⟨z31, rfl, hL32, h⟩
          have hT34 := cT.le (C := C20) hT24 hL32
          have hT35 := cT.le (C := C20) hT25 hL32
          have hT36 := cT.le (C := C20) hT26 hL32
          have hT37 := cT.le (C := C20) hT33 hL32
          show cG _ _ _ _ _ _ [.int z31] _
          refine ag_istore (lv2 := [some (.ref t), some (.int p0), some (.int p1), some (.int p2), some (.int z31), none]) dX4_applyToTwo_66 (Nat.le_of_ble_eq_true rfl) rfl ?_
          refine ag_aload_n dX4_applyToTwo_68 rfl (Or.inr ⟨_, rfl⟩) ?_
          refine cr_get (v := va_rf (cR C30 t 0)) dX4_applyToTwo_69 fw_4_9 hT34 rfl ?_
          refine ag_iload_n dX4_applyToTwo_72 rfl ?_
          refine ag_iconst (v := 1) dX4_applyToTwo_73 rfl ?_
          obtain ⟨a38, hr39, h⟩ := h
          refine cr_stk (st' := [.int 1, .int p2, .ref a38]) (by rw [hr39]; rfl) ?_
          obtain ⟨hT43, h⟩ := h
          refine cr_callV (as := [.int p2, .int 1]) (rest := []) dX4_applyToTwo_74 me_X0_part mi_X0_part lk_4_98 hT43 rfl rfl (Nat.le_of_ble_eq_true rfl) ?_
          refine cM.mono h ?_
          rintro v C40 ⟨z41, rfl, hL42, h⟩
          have hT44 := cT.le (C := C30) hT34 hL42
          have hT45 := cT.le (C := C30) hT35 hL42
          have hT46 := cT.le (C := C30) hT36 hL42
          have hT47 := cT.le (C := C30) hT37 hL42
          have hT48 := cT.le (C := C30) hT43 hL42
          show cG _ _ _ _ _ _ [.int z41] _
          refine ag_istore (lv2 := [some (.ref t), some (.int p0), some (.int p1), some (.int p2), some (.int z31), some (.int z41)]) dX4_applyToTwo_77 (Nat.le_of_ble_eq_true rfl) rfl ?_
          refine ag_iload_n dX4_applyToTwo_79 rfl ?_
          refine ag_bipush (v := 60) dX4_applyToTwo_80 (by decide) ?_
          refine ag_icmp_ne (tgt := 98) dX4_applyToTwo_82 rfl (fun hc49 => ?_) (fun hc49 => ?_)
          · have h := h.1 hc49
            refine ag_aload_n dX4_applyToTwo_98 rfl (Or.inr ⟨_, rfl⟩) ?_
            refine ag_aload_n dX4_applyToTwo_99 rfl (Or.inr ⟨_, rfl⟩) ?_
            refine cr_get (v := va_rf (cR C40 t 0)) dX4_applyToTwo_100 fw_4_9 hT44 rfl ?_
            refine ag_iload_n dX4_applyToTwo_103 rfl ?_
            refine ag_bipush (v := 43) dX4_applyToTwo_104 (by decide) ?_
            refine ag_icmp_ne (tgt := 117) dX4_applyToTwo_106 rfl (fun hc50 => ?_) (fun hc50 => ?_)
            · have h := h.1 hc50
              refine ag_iload dX4_applyToTwo_117 rfl ?_
              refine ag_iload dX4_applyToTwo_119 rfl ?_
              refine ag_isub dX4_applyToTwo_121 rfl ?_
              obtain ⟨a51, hr52, h⟩ := h
              refine cr_stk (st' := [.int (z31 - z41), .ref a51, .ref t]) (by rw [hr52]; rfl) ?_
              obtain ⟨hT56, h⟩ := h
              refine cr_callV (as := [.int (z31 - z41)]) (rest := [.ref t]) dX4_applyToTwo_122 me_X0_addNumber mi_X0_addNumber lk_4_107 hT56 rfl rfl (Nat.le_of_ble_eq_true rfl) ?_
              refine cM.mono h ?_
              rintro v C53 ⟨z54, rfl, hL55, h⟩
              have hT57 := cT.le (C := C40) hT44 hL55
              have hT58 := cT.le (C := C40) hT45 hL55
              have hT59 := cT.le (C := C40) hT46 hL55
              have hT60 := cT.le (C := C40) hT47 hL55
              have hT61 := cT.le (C := C40) hT48 hL55
              have hT62 := cT.le (C := C40) hT56 hL55
              show cG _ _ _ _ _ _ [.int z54, .ref t] _
              refine cr_callV (as := [.int z54]) (rest := []) dX4_applyToTwo_125 me_X4_madeOrFailed mi_X4_madeOrFailed lk_4_104 hT57 rfl rfl (Nat.le_of_ble_eq_true rfl) ?_
              refine cM.mono h ?_
              rintro v C63 ⟨z64, rfl, hL65, h⟩
              have hT66 := cT.le (C := C53) hT57 hL65
              have hT67 := cT.le (C := C53) hT58 hL65
              have hT68 := cT.le (C := C53) hT59 hL65
              have hT69 := cT.le (C := C53) hT60 hL65
              have hT70 := cT.le (C := C53) hT61 hL65
              have hT71 := cT.le (C := C53) hT62 hL65
              show cG _ _ _ _ _ _ [.int z64] _
              exact ag_ret (v := some (.int z64)) dX4_applyToTwo_128 ⟨_, rfl, rfl⟩ ⟨_, rfl, _, rfl, h⟩ rfl
            · have h := h.2 hc50
              refine ag_iload dX4_applyToTwo_109 rfl ?_
              refine ag_iload dX4_applyToTwo_111 rfl ?_
              refine ag_iadd dX4_applyToTwo_113 rfl ?_
              refine ag_goto (tgt := 122) dX4_applyToTwo_114 rfl ?_
              obtain ⟨a72, hr73, h⟩ := h
              refine cr_stk (st' := [.int (z31 + z41), .ref a72, .ref t]) (by rw [hr73]; rfl) ?_
              obtain ⟨hT77, h⟩ := h
              refine cr_callV (as := [.int (z31 + z41)]) (rest := [.ref t]) dX4_applyToTwo_122 me_X0_addNumber mi_X0_addNumber lk_4_107 hT77 rfl rfl (Nat.le_of_ble_eq_true rfl) ?_
              refine cM.mono h ?_
              rintro v C74 ⟨z75, rfl, hL76, h⟩
              have hT78 := cT.le (C := C40) hT44 hL76
              have hT79 := cT.le (C := C40) hT45 hL76
              have hT80 := cT.le (C := C40) hT46 hL76
              have hT81 := cT.le (C := C40) hT47 hL76
              have hT82 := cT.le (C := C40) hT48 hL76
              have hT83 := cT.le (C := C40) hT77 hL76
              show cG _ _ _ _ _ _ [.int z75, .ref t] _
              refine cr_callV (as := [.int z75]) (rest := []) dX4_applyToTwo_125 me_X4_madeOrFailed mi_X4_madeOrFailed lk_4_104 hT78 rfl rfl (Nat.le_of_ble_eq_true rfl) ?_
              refine cM.mono h ?_
              rintro v C84 ⟨z85, rfl, hL86, h⟩
              have hT87 := cT.le (C := C74) hT78 hL86
              have hT88 := cT.le (C := C74) hT79 hL86
              have hT89 := cT.le (C := C74) hT80 hL86
              have hT90 := cT.le (C := C74) hT81 hL86
              have hT91 := cT.le (C := C74) hT82 hL86
              have hT92 := cT.le (C := C74) hT83 hL86
              show cG _ _ _ _ _ _ [.int z85] _
              exact ag_ret (v := some (.int z85)) dX4_applyToTwo_128 ⟨_, rfl, rfl⟩ ⟨_, rfl, _, rfl, h⟩ rfl
          · have h := h.2 hc49
            refine ag_iload dX4_applyToTwo_85 rfl ?_
            refine ag_iload dX4_applyToTwo_87 rfl ?_
            refine ag_icmp_ge (tgt := 96) dX4_applyToTwo_89 rfl (fun hc93 => ?_) (fun hc93 => ?_)
            · have h := h.1 hc93
              refine ag_iconst (v := 1) dX4_applyToTwo_96 rfl ?_
              exact ag_ret (v := some (.int 1)) dX4_applyToTwo_97 ⟨_, rfl, rfl⟩ ⟨_, rfl, _, rfl, h⟩ rfl
            · have h := h.2 hc93
              refine ag_iconst (v := 0) dX4_applyToTwo_92 rfl ?_
              refine ag_goto (tgt := 97) dX4_applyToTwo_93 rfl ?_
              exact ag_ret (v := some (.int 0)) dX4_applyToTwo_97 ⟨_, rfl, rfl⟩ ⟨_, rfl, _, rfl, h⟩ rfl
        · have h := h.2 hc27
          refine ag_aload_n dX4_applyToTwo_51 rfl (Or.inr ⟨_, rfl⟩) ?_
          refine ag_iconst (v := 2) dX4_applyToTwo_52 rfl ?_
          refine cr_callV (as := [.int 2]) (rest := []) dX4_applyToTwo_53 me_X4_fail mi_X4_fail lk_4_95 hT24 rfl rfl (Nat.le_of_ble_eq_true rfl) ?_
          refine cM.mono h ?_
          rintro v C94 ⟨z95, rfl, hL96, h⟩
          have hT97 := cT.le (C := C20) hT24 hL96
          have hT98 := cT.le (C := C20) hT25 hL96
          have hT99 := cT.le (C := C20) hT26 hL96
          show cG _ _ _ _ _ _ [.int z95] _
          exact ag_ret (v := some (.int z95)) dX4_applyToTwo_56 ⟨_, rfl, rfl⟩ ⟨_, rfl, _, rfl, h⟩ rfl
    · have h := h.2 hc2
      refine ag_aload_n dX4_applyToTwo_13 rfl (Or.inr ⟨_, rfl⟩) ?_
      refine ag_aload_n dX4_applyToTwo_14 rfl (Or.inr ⟨_, rfl⟩) ?_
      obtain ⟨hT100, h⟩ := h
      refine cr_get (v := va_rf (cR C t 0)) dX4_applyToTwo_15 fw_4_9 hT100 rfl ?_
      refine ag_iload_n dX4_applyToTwo_18 rfl ?_
      refine ag_iload_n dX4_applyToTwo_19 rfl ?_
      obtain ⟨a101, hr102, h⟩ := h
      refine cr_stk (st' := [.int p2, .int p1, .ref a101, .ref t]) (by rw [hr102]; rfl) ?_
      obtain ⟨hT106, h⟩ := h
      refine cr_callV (as := [.int p1, .int p2]) (rest := [.ref t]) dX4_applyToTwo_20 me_X0_addPair mi_X0_addPair lk_4_101 hT106 rfl rfl (Nat.le_of_ble_eq_true rfl) ?_
      refine cM.mono h ?_
      rintro v C103 ⟨z104, rfl, hL105, h⟩
      have hT107 := cT.le (C := C) hT100 hL105
      have hT108 := cT.le (C := C) hT106 hL105
      show cG _ _ _ _ _ _ [.int z104, .ref t] _
      refine cr_callV (as := [.int z104]) (rest := []) dX4_applyToTwo_23 me_X4_madeOrFailed mi_X4_madeOrFailed lk_4_104 hT107 rfl rfl (Nat.le_of_ble_eq_true rfl) ?_
      refine cM.mono h ?_
      rintro v C109 ⟨z110, rfl, hL111, h⟩
      have hT112 := cT.le (C := C103) hT107 hL111
      have hT113 := cT.le (C := C103) hT108 hL111
      show cG _ _ _ _ _ _ [.int z110] _
      exact ag_ret (v := some (.int z110)) dX4_applyToTwo_26 ⟨_, rfl, rfl⟩ ⟨_, rfl, _, rfl, h⟩ rfl
  · have h := h.2 hc1
    refine ag_iconst (v := (-1)) dX4_applyToTwo_5 rfl ?_
    exact ag_ret (v := some (.int (-1))) dX4_applyToTwo_6 ⟨_, rfl, rfl⟩ ⟨_, rfl, _, rfl, h⟩ rfl
theorem dX4_madeOrFailed_0 : decode cX4_madeOrFailed 0 = .ok (.iload_n 1, 1) := by decide +kernel
theorem dX4_madeOrFailed_1 : decode cX4_madeOrFailed 1 = .ok (.iconst (-1), 1) := by decide +kernel
theorem dX4_madeOrFailed_2 : decode cX4_madeOrFailed 2 = .ok (.if_icmp .ne 11, 3) := by decide +kernel
theorem dX4_madeOrFailed_5 : decode cX4_madeOrFailed 5 = .ok (.aload_n 0, 1) := by decide +kernel
theorem dX4_madeOrFailed_6 : decode cX4_madeOrFailed 6 = .ok (.iconst 3, 1) := by decide +kernel
theorem dX4_madeOrFailed_7 : decode cX4_madeOrFailed 7 = .ok (.invokevirtual 95, 3) := by decide +kernel
theorem dX4_madeOrFailed_10 : decode cX4_madeOrFailed 10 = .ok (.goto 4, 3) := by decide +kernel
theorem dX4_madeOrFailed_13 : decode cX4_madeOrFailed 13 = .ok (.iload_n 1, 1) := by decide +kernel
theorem dX4_madeOrFailed_14 : decode cX4_madeOrFailed 14 = .ok (.ireturn, 1) := by decide +kernel
set_option maxRecDepth 20000 in
set_option maxHeartbeats 4000000 in
theorem w_X4_madeOrFailed {c : cX} {d : Nat} {C : cS} {K : Option Value → cS → Prop} (t : Nat) (p0 : Int32) (h : (¬ p0 = (-1) → (K (some (.int p0)) C)) ∧ (p0 = (-1) → (cT C t 4 6 ∧ (cM c d eX4_fail (.ref t :: [.int 3]) C (fun v C2 => ∃ z3 : Int32, v = some (.int z3) ∧ cle C C2 ∧ (K (some (.int z3)) C2)))))) : cM c (d + 1) eX4_madeOrFailed [.ref t, .int p0] C K := by
  refine cM.of2 (lv := [some (.ref t), some (.int p0)]) (by decide) (Nat.le_of_ble_eq_true rfl) rfl ?_
  refine ag_iload_n dX4_madeOrFailed_0 rfl ?_
  refine ag_iconst (v := (-1)) dX4_madeOrFailed_1 rfl ?_
  refine ag_icmp_ne (tgt := 13) dX4_madeOrFailed_2 rfl (fun hc1 => ?_) (fun hc1 => ?_)
  · have h := h.1 hc1
    refine ag_iload_n dX4_madeOrFailed_13 rfl ?_
    exact ag_ret (v := some (.int p0)) dX4_madeOrFailed_14 ⟨_, rfl, rfl⟩ ⟨_, rfl, _, rfl, h⟩ rfl
  · have h := h.2 hc1
    refine ag_aload_n dX4_madeOrFailed_5 rfl (Or.inr ⟨_, rfl⟩) ?_
    refine ag_iconst (v := 3) dX4_madeOrFailed_6 rfl ?_
    obtain ⟨hT5, h⟩ := h
    refine cr_callV (as := [.int 3]) (rest := []) dX4_madeOrFailed_7 me_X4_fail mi_X4_fail lk_4_95 hT5 rfl rfl (Nat.le_of_ble_eq_true rfl) ?_
    refine cM.mono h ?_
    rintro v C2 ⟨z3, rfl, hL4, h⟩
    have hT6 := cT.le (C := C) hT5 hL4
    show cG _ _ _ _ _ _ [.int z3] _
    refine ag_goto (tgt := 14) dX4_madeOrFailed_10 rfl ?_
    exact ag_ret (v := some (.int z3)) dX4_madeOrFailed_14 ⟨_, rfl, rfl⟩ ⟨_, rfl, _, rfl, h⟩ rfl
theorem dX4_fail_0 : decode cX4_fail 0 = .ok (.aload_n 0, 1) := by decide +kernel
theorem dX4_fail_1 : decode cX4_fail 1 = .ok (.iload_n 1, 1) := by decide +kernel
theorem dX4_fail_2 : decode cX4_fail 2 = .ok (.putfield 31, 3) := by decide +kernel
theorem dX4_fail_5 : decode cX4_fail 5 = .ok (.iconst (-1), 1) := by decide +kernel
theorem dX4_fail_6 : decode cX4_fail 6 = .ok (.ireturn, 1) := by decide +kernel
set_option maxRecDepth 20000 in
set_option maxHeartbeats 4000000 in
theorem w_X4_fail {c : cX} {d : Nat} {C : cS} {K : Option Value → cS → Prop} (t : Nat) (p0 : Int32) (h : cT C t 4 6 ∧ (K (some (.int (-1))) (csi C t 5 p0))) : cM c d eX4_fail [.ref t, .int p0] C K := by
  refine cM.of2 (lv := [some (.ref t), some (.int p0)]) (by decide) (Nat.le_of_ble_eq_true rfl) rfl ?_
  refine ag_aload_n dX4_fail_0 rfl (Or.inr ⟨_, rfl⟩) ?_
  refine ag_iload_n dX4_fail_1 rfl ?_
  obtain ⟨hT1, h⟩ := h
  refine cr_pi (C2 := (csi C t 5 p0)) dX4_fail_2 pw_4_31 rfl hT1 (fun _ => ⟨rfl, rfl⟩) rfl ?_
  refine ag_iconst (v := (-1)) dX4_fail_5 rfl ?_
  exact ag_ret (v := some (.int (-1))) dX4_fail_6 ⟨_, rfl, rfl⟩ ⟨_, rfl, _, rfl, h⟩ rfl
theorem dX5_init_0 : decode cX5_init 0 = .ok (.aload_n 0, 1) := by decide +kernel
theorem dX5_init_1 : decode cX5_init 1 = .ok (.invokespecial 1, 3) := by decide +kernel
theorem dX5_init_4 : decode cX5_init 4 = .ok (.aload_n 0, 1) := by decide +kernel
theorem dX5_init_5 : decode cX5_init 5 = .ok (.iload_n 1, 1) := by decide +kernel
theorem dX5_init_6 : decode cX5_init 6 = .ok (.putfield 7, 3) := by decide +kernel
theorem dX5_init_9 : decode cX5_init 9 = .ok (.aload_n 0, 1) := by decide +kernel
theorem dX5_init_10 : decode cX5_init 10 = .ok (.iload_n 2, 1) := by decide +kernel
theorem dX5_init_11 : decode cX5_init 11 = .ok (.putfield 13, 3) := by decide +kernel
theorem dX5_init_14 : decode cX5_init 14 = .ok (.aload_n 0, 1) := by decide +kernel
theorem dX5_init_15 : decode cX5_init 15 = .ok (.iload_n 3, 1) := by decide +kernel
theorem dX5_init_16 : decode cX5_init 16 = .ok (.putfield 16, 3) := by decide +kernel
theorem dX5_init_19 : decode cX5_init 19 = .ok (.aload_n 0, 1) := by decide +kernel
theorem dX5_init_20 : decode cX5_init 20 = .ok (.iload 4, 2) := by decide +kernel
theorem dX5_init_22 : decode cX5_init 22 = .ok (.putfield 19, 3) := by decide +kernel
theorem dX5_init_25 : decode cX5_init 25 = .ok (.aload_n 0, 1) := by decide +kernel
theorem dX5_init_26 : decode cX5_init 26 = .ok (.aload 5, 2) := by decide +kernel
theorem dX5_init_28 : decode cX5_init 28 = .ok (.putfield 22, 3) := by decide +kernel
theorem dX5_init_31 : decode cX5_init 31 = .ok (.aload_n 0, 1) := by decide +kernel
theorem dX5_init_32 : decode cX5_init 32 = .ok (.aload 6, 2) := by decide +kernel
theorem dX5_init_34 : decode cX5_init 34 = .ok (.putfield 26, 3) := by decide +kernel
theorem dX5_init_37 : decode cX5_init 37 = .ok (.aload_n 0, 1) := by decide +kernel
theorem dX5_init_38 : decode cX5_init 38 = .ok (.aload 7, 2) := by decide +kernel
theorem dX5_init_40 : decode cX5_init 40 = .ok (.putfield 29, 3) := by decide +kernel
theorem dX5_init_43 : decode cX5_init 43 = .ok (.return_, 1) := by decide +kernel
set_option maxRecDepth 20000 in
set_option maxHeartbeats 4000000 in
theorem w_X5_init {c : cX} {d : Nat} {C : cS} {K : Option Value → cS → Prop} (t : Nat) (p0 : Int32) (p1 : Int32) (p2 : Int32) (p3 : Int32) (p4 : Option Nat) (p5 : Option Nat) (p6 : Option Nat) (h : cT C t 5 7 ∧ (K none (csr (csr (csr (csi (csi (csi (csi C t 0 p0) t 1 p1) t 2 p2) t 3 p3) t 4 p4) t 5 p5) t 6 p6))) : cM c (d + 1) eX5_init [.ref t, .int p0, .int p1, .int p2, .int p3, va_rf p4, va_rf p5, va_rf p6] C K := by
  refine cM.of2 (lv := [some (.ref t), some (.int p0), some (.int p1), some (.int p2), some (.int p3), some (va_rf p4), some (va_rf p5), some (va_rf p6)]) (by decide) (by simp only [am_sl_i, am_sl_r, am_sl_l, am_sl_o, am_sl_n]; exact Nat.le_of_ble_eq_true rfl) (by simp only [am_en, am_sl_i, am_sl_r, am_sl_l, am_sl_o, am_sl_n]; rfl) ?_
  refine ag_aload_n dX5_init_0 rfl (Or.inr ⟨_, rfl⟩) ?_
  refine ag_obj dX5_init_1 lo_5_1 io_1 io_2 (Nat.le_of_ble_eq_true rfl) ?_
  refine ag_aload_n dX5_init_4 rfl (Or.inr ⟨_, rfl⟩) ?_
  refine ag_iload_n dX5_init_5 rfl ?_
  obtain ⟨hT1, h⟩ := h
  refine cr_piF (C2 := (csi C t 0 p0)) dX5_init_6 rfl pw_5_7 rfl hT1 (fun _ => ⟨rfl, rfl⟩) rfl ?_
  refine ag_aload_n dX5_init_9 rfl (Or.inr ⟨_, rfl⟩) ?_
  refine ag_iload_n dX5_init_10 rfl ?_
  refine cr_piF (C2 := (csi (csi C t 0 p0) t 1 p1)) dX5_init_11 rfl pw_5_13 rfl hT1 (fun _ => ⟨rfl, rfl⟩) rfl ?_
  refine ag_aload_n dX5_init_14 rfl (Or.inr ⟨_, rfl⟩) ?_
  refine ag_iload_n dX5_init_15 rfl ?_
  refine cr_piF (C2 := (csi (csi (csi C t 0 p0) t 1 p1) t 2 p2)) dX5_init_16 rfl pw_5_16 rfl hT1 (fun _ => ⟨rfl, rfl⟩) rfl ?_
  refine ag_aload_n dX5_init_19 rfl (Or.inr ⟨_, rfl⟩) ?_
  refine ag_iload dX5_init_20 rfl ?_
  refine cr_piF (C2 := (csi (csi (csi (csi C t 0 p0) t 1 p1) t 2 p2) t 3 p3)) dX5_init_22 rfl pw_5_19 rfl hT1 (fun _ => ⟨rfl, rfl⟩) rfl ?_
  refine ag_aload_n dX5_init_25 rfl (Or.inr ⟨_, rfl⟩) ?_
  refine ag_aload dX5_init_26 rfl (va_rf_or _) ?_
  refine cr_prF (r := p4) (C2 := (csr (csi (csi (csi (csi C t 0 p0) t 1 p1) t 2 p2) t 3 p3) t 4 p4)) dX5_init_28 rfl pw_5_22 rfl (Or.inl ⟨_, rfl⟩) hT1 rfl ?_
  refine ag_aload_n dX5_init_31 rfl (Or.inr ⟨_, rfl⟩) ?_
  refine ag_aload dX5_init_32 rfl (va_rf_or _) ?_
  refine cr_prF (r := p5) (C2 := (csr (csr (csi (csi (csi (csi C t 0 p0) t 1 p1) t 2 p2) t 3 p3) t 4 p4) t 5 p5)) dX5_init_34 rfl pw_5_26 rfl (Or.inl ⟨_, rfl⟩) hT1 rfl ?_
  refine ag_aload_n dX5_init_37 rfl (Or.inr ⟨_, rfl⟩) ?_
  refine ag_aload dX5_init_38 rfl (va_rf_or _) ?_
  refine cr_prF (r := p6) (C2 := (csr (csr (csr (csi (csi (csi (csi C t 0 p0) t 1 p1) t 2 p2) t 3 p3) t 4 p4) t 5 p5) t 6 p6)) dX5_init_40 rfl pw_5_29 rfl (Or.inl ⟨_, rfl⟩) hT1 rfl ?_
  exact ag_ret (v := none) dX5_init_43 rfl ⟨_, rfl, _, rfl, h⟩ rfl
theorem dX6_init_0 : decode cX6_init 0 = .ok (.aload_n 0, 1) := by decide +kernel
theorem dX6_init_1 : decode cX6_init 1 = .ok (.invokespecial 3, 3) := by decide +kernel
theorem dX6_init_4 : decode cX6_init 4 = .ok (.aload_n 0, 1) := by decide +kernel
theorem dX6_init_5 : decode cX6_init 5 = .ok (.aload_n 1, 1) := by decide +kernel
theorem dX6_init_6 : decode cX6_init 6 = .ok (.putfield 9, 3) := by decide +kernel
theorem dX6_init_9 : decode cX6_init 9 = .ok (.aload_n 0, 1) := by decide +kernel
theorem dX6_init_10 : decode cX6_init 10 = .ok (.aload_n 2, 1) := by decide +kernel
theorem dX6_init_11 : decode cX6_init 11 = .ok (.putfield 15, 3) := by decide +kernel
theorem dX6_init_14 : decode cX6_init 14 = .ok (.aload_n 0, 1) := by decide +kernel
theorem dX6_init_15 : decode cX6_init 15 = .ok (.bipush 8, 2) := by decide +kernel
theorem dX6_init_17 : decode cX6_init 17 = .ok (.newarray .int, 2) := by decide +kernel
theorem dX6_init_19 : decode cX6_init 19 = .ok (.dup, 1) := by decide +kernel
theorem dX6_init_20 : decode cX6_init 20 = .ok (.iconst 0, 1) := by decide +kernel
theorem dX6_init_21 : decode cX6_init 21 = .ok (.iconst (-1), 1) := by decide +kernel
theorem dX6_init_22 : decode cX6_init 22 = .ok (.iastore, 1) := by decide +kernel
theorem dX6_init_23 : decode cX6_init 23 = .ok (.dup, 1) := by decide +kernel
theorem dX6_init_24 : decode cX6_init 24 = .ok (.iconst 1, 1) := by decide +kernel
theorem dX6_init_25 : decode cX6_init 25 = .ok (.iconst (-1), 1) := by decide +kernel
theorem dX6_init_26 : decode cX6_init 26 = .ok (.iastore, 1) := by decide +kernel
theorem dX6_init_27 : decode cX6_init 27 = .ok (.dup, 1) := by decide +kernel
theorem dX6_init_28 : decode cX6_init 28 = .ok (.iconst 2, 1) := by decide +kernel
theorem dX6_init_29 : decode cX6_init 29 = .ok (.iconst (-1), 1) := by decide +kernel
theorem dX6_init_30 : decode cX6_init 30 = .ok (.iastore, 1) := by decide +kernel
theorem dX6_init_31 : decode cX6_init 31 = .ok (.dup, 1) := by decide +kernel
theorem dX6_init_32 : decode cX6_init 32 = .ok (.iconst 3, 1) := by decide +kernel
theorem dX6_init_33 : decode cX6_init 33 = .ok (.iconst (-1), 1) := by decide +kernel
theorem dX6_init_34 : decode cX6_init 34 = .ok (.iastore, 1) := by decide +kernel
theorem dX6_init_35 : decode cX6_init 35 = .ok (.dup, 1) := by decide +kernel
theorem dX6_init_36 : decode cX6_init 36 = .ok (.iconst 4, 1) := by decide +kernel
theorem dX6_init_37 : decode cX6_init 37 = .ok (.iconst (-1), 1) := by decide +kernel
theorem dX6_init_38 : decode cX6_init 38 = .ok (.iastore, 1) := by decide +kernel
theorem dX6_init_39 : decode cX6_init 39 = .ok (.dup, 1) := by decide +kernel
theorem dX6_init_40 : decode cX6_init 40 = .ok (.iconst 5, 1) := by decide +kernel
theorem dX6_init_41 : decode cX6_init 41 = .ok (.iconst (-1), 1) := by decide +kernel
theorem dX6_init_42 : decode cX6_init 42 = .ok (.iastore, 1) := by decide +kernel
theorem dX6_init_43 : decode cX6_init 43 = .ok (.dup, 1) := by decide +kernel
theorem dX6_init_44 : decode cX6_init 44 = .ok (.bipush 6, 2) := by decide +kernel
theorem dX6_init_46 : decode cX6_init 46 = .ok (.iconst (-1), 1) := by decide +kernel
theorem dX6_init_47 : decode cX6_init 47 = .ok (.iastore, 1) := by decide +kernel
theorem dX6_init_48 : decode cX6_init 48 = .ok (.dup, 1) := by decide +kernel
theorem dX6_init_49 : decode cX6_init 49 = .ok (.bipush 7, 2) := by decide +kernel
theorem dX6_init_51 : decode cX6_init 51 = .ok (.iconst (-1), 1) := by decide +kernel
theorem dX6_init_52 : decode cX6_init 52 = .ok (.iastore, 1) := by decide +kernel
theorem dX6_init_53 : decode cX6_init 53 = .ok (.putfield 19, 3) := by decide +kernel
theorem dX6_init_56 : decode cX6_init 56 = .ok (.aload_n 0, 1) := by decide +kernel
theorem dX6_init_57 : decode cX6_init 57 = .ok (.iconst 2, 1) := by decide +kernel
theorem dX6_init_58 : decode cX6_init 58 = .ok (.putfield 23, 3) := by decide +kernel
theorem dX6_init_61 : decode cX6_init 61 = .ok (.aload_n 0, 1) := by decide +kernel
theorem dX6_init_62 : decode cX6_init 62 = .ok (.iconst 0, 1) := by decide +kernel
theorem dX6_init_63 : decode cX6_init 63 = .ok (.putfield 27, 3) := by decide +kernel
theorem dX6_init_66 : decode cX6_init 66 = .ok (.aload_n 0, 1) := by decide +kernel
theorem dX6_init_67 : decode cX6_init 67 = .ok (.iconst 0, 1) := by decide +kernel
theorem dX6_init_68 : decode cX6_init 68 = .ok (.putfield 30, 3) := by decide +kernel
theorem dX6_init_71 : decode cX6_init 71 = .ok (.aload_n 0, 1) := by decide +kernel
theorem dX6_init_72 : decode cX6_init 72 = .ok (.iconst (-1), 1) := by decide +kernel
theorem dX6_init_73 : decode cX6_init 73 = .ok (.putfield 33, 3) := by decide +kernel
theorem dX6_init_76 : decode cX6_init 76 = .ok (.aload_n 0, 1) := by decide +kernel
theorem dX6_init_77 : decode cX6_init 77 = .ok (.iconst 0, 1) := by decide +kernel
theorem dX6_init_78 : decode cX6_init 78 = .ok (.putfield 36, 3) := by decide +kernel
theorem dX6_init_81 : decode cX6_init 81 = .ok (.return_, 1) := by decide +kernel
set_option maxRecDepth 20000 in
set_option maxHeartbeats 4000000 in
theorem w_X6_init {c : cX} {d : Nat} {C : cS} {K : Option Value → cS → Prop} (t : Nat) (p0 : Option Nat) (p1 : Option Nat) (hT0 : cT C t 6 8) (h : K none (csi (csi (csi (csi (csi (csr (csi (csi (csi (csi (csi (csi (csi (csi (cnw (csr (csr C t 0 p0) t 1 p1) 20 8) ((csr (csr C t 0 p0) t 1 p1).1) 0 (-1)) ((csr (csr C t 0 p0) t 1 p1).1) 1 (-1)) ((csr (csr C t 0 p0) t 1 p1).1) 2 (-1)) ((csr (csr C t 0 p0) t 1 p1).1) 3 (-1)) ((csr (csr C t 0 p0) t 1 p1).1) 4 (-1)) ((csr (csr C t 0 p0) t 1 p1).1) 5 (-1)) ((csr (csr C t 0 p0) t 1 p1).1) 6 (-1)) ((csr (csr C t 0 p0) t 1 p1).1) 7 (-1)) t 2 (some ((csr (csr C t 0 p0) t 1 p1).1))) t 3 2) t 4 0) t 5 0) t 6 (-1)) t 7 0)) : cM c (d + 1) eX6_init [.ref t, va_rf p0, va_rf p1] C K := by
  refine cM.of2 (lv := [some (.ref t), some (va_rf p0), some (va_rf p1)]) (by decide) (by simp only [am_sl_i, am_sl_r, am_sl_l, am_sl_o, am_sl_n]; exact Nat.le_of_ble_eq_true rfl) (by simp only [am_en, am_sl_i, am_sl_r, am_sl_l, am_sl_o, am_sl_n]; rfl) ?_
  refine ag_aload_n dX6_init_0 rfl (Or.inr ⟨_, rfl⟩) ?_
  refine ag_obj dX6_init_1 lo_6_3 io_1 io_2 (Nat.le_of_ble_eq_true rfl) ?_
  refine ag_aload_n dX6_init_4 rfl (Or.inr ⟨_, rfl⟩) ?_
  refine ag_aload_n dX6_init_5 rfl (va_rf_or _) ?_
  refine cr_prF (r := p0) (C2 := (csr C t 0 p0)) dX6_init_6 rfl pw_6_9 rfl (Or.inl ⟨_, rfl⟩) hT0 rfl ?_
  refine ag_aload_n dX6_init_9 rfl (Or.inr ⟨_, rfl⟩) ?_
  refine ag_aload_n dX6_init_10 rfl (va_rf_or _) ?_
  refine cr_prF (r := p1) (C2 := (csr (csr C t 0 p0) t 1 p1)) dX6_init_11 rfl pw_6_15 rfl (Or.inr ⟨_, rfl⟩) hT0 rfl ?_
  refine ag_aload_n dX6_init_14 rfl (Or.inr ⟨_, rfl⟩) ?_
  refine ag_bipush (v := 8) dX6_init_15 (by decide) ?_
  refine cr_newa (t := 20) (C2 := (cnw (csr (csr C t 0 p0) t 1 p1) 20 8)) dX6_init_17 rfl ac_int (by decide) (by decide) (by decide) (fun _ => rfl) rfl ?_
  have hT1 := cT_nw (C := (csr (csr C t 0 p0) t 1 p1)) (t := 20) (n := 8) hT0
  have hT2 := cT.le (C := (csr (csr C t 0 p0) t 1 p1)) hT0 (cle_nw (csr (csr C t 0 p0) t 1 p1) 20 8)
  refine ag_dup dX6_init_19 rfl ?_
  refine ag_iconst (v := 0) dX6_init_20 rfl ?_
  refine ag_iconst (v := (-1)) dX6_init_21 rfl ?_
  refine cr_is (C2 := (csi (cnw (csr (csr C t 0 p0) t 1 p1) 20 8) ((csr (csr C t 0 p0) t 1 p1).1) 0 (-1))) dX6_init_22 hT1 ⟨by decide, by decide, by decide⟩ rfl ?_
  refine ag_dup dX6_init_23 rfl ?_
  refine ag_iconst (v := 1) dX6_init_24 rfl ?_
  refine ag_iconst (v := (-1)) dX6_init_25 rfl ?_
  refine cr_is (C2 := (csi (csi (cnw (csr (csr C t 0 p0) t 1 p1) 20 8) ((csr (csr C t 0 p0) t 1 p1).1) 0 (-1)) ((csr (csr C t 0 p0) t 1 p1).1) 1 (-1))) dX6_init_26 hT1 ⟨by decide, by decide, by decide⟩ rfl ?_
  refine ag_dup dX6_init_27 rfl ?_
  refine ag_iconst (v := 2) dX6_init_28 rfl ?_
  refine ag_iconst (v := (-1)) dX6_init_29 rfl ?_
  refine cr_is (C2 := (csi (csi (csi (cnw (csr (csr C t 0 p0) t 1 p1) 20 8) ((csr (csr C t 0 p0) t 1 p1).1) 0 (-1)) ((csr (csr C t 0 p0) t 1 p1).1) 1 (-1)) ((csr (csr C t 0 p0) t 1 p1).1) 2 (-1))) dX6_init_30 hT1 ⟨by decide, by decide, by decide⟩ rfl ?_
  refine ag_dup dX6_init_31 rfl ?_
  refine ag_iconst (v := 3) dX6_init_32 rfl ?_
  refine ag_iconst (v := (-1)) dX6_init_33 rfl ?_
  refine cr_is (C2 := (csi (csi (csi (csi (cnw (csr (csr C t 0 p0) t 1 p1) 20 8) ((csr (csr C t 0 p0) t 1 p1).1) 0 (-1)) ((csr (csr C t 0 p0) t 1 p1).1) 1 (-1)) ((csr (csr C t 0 p0) t 1 p1).1) 2 (-1)) ((csr (csr C t 0 p0) t 1 p1).1) 3 (-1))) dX6_init_34 hT1 ⟨by decide, by decide, by decide⟩ rfl ?_
  refine ag_dup dX6_init_35 rfl ?_
  refine ag_iconst (v := 4) dX6_init_36 rfl ?_
  refine ag_iconst (v := (-1)) dX6_init_37 rfl ?_
  refine cr_is (C2 := (csi (csi (csi (csi (csi (cnw (csr (csr C t 0 p0) t 1 p1) 20 8) ((csr (csr C t 0 p0) t 1 p1).1) 0 (-1)) ((csr (csr C t 0 p0) t 1 p1).1) 1 (-1)) ((csr (csr C t 0 p0) t 1 p1).1) 2 (-1)) ((csr (csr C t 0 p0) t 1 p1).1) 3 (-1)) ((csr (csr C t 0 p0) t 1 p1).1) 4 (-1))) dX6_init_38 hT1 ⟨by decide, by decide, by decide⟩ rfl ?_
  refine ag_dup dX6_init_39 rfl ?_
  refine ag_iconst (v := 5) dX6_init_40 rfl ?_
  refine ag_iconst (v := (-1)) dX6_init_41 rfl ?_
  refine cr_is (C2 := (csi (csi (csi (csi (csi (csi (cnw (csr (csr C t 0 p0) t 1 p1) 20 8) ((csr (csr C t 0 p0) t 1 p1).1) 0 (-1)) ((csr (csr C t 0 p0) t 1 p1).1) 1 (-1)) ((csr (csr C t 0 p0) t 1 p1).1) 2 (-1)) ((csr (csr C t 0 p0) t 1 p1).1) 3 (-1)) ((csr (csr C t 0 p0) t 1 p1).1) 4 (-1)) ((csr (csr C t 0 p0) t 1 p1).1) 5 (-1))) dX6_init_42 hT1 ⟨by decide, by decide, by decide⟩ rfl ?_
  refine ag_dup dX6_init_43 rfl ?_
  refine ag_bipush (v := 6) dX6_init_44 (by decide) ?_
  refine ag_iconst (v := (-1)) dX6_init_46 rfl ?_
  refine cr_is (C2 := (csi (csi (csi (csi (csi (csi (csi (cnw (csr (csr C t 0 p0) t 1 p1) 20 8) ((csr (csr C t 0 p0) t 1 p1).1) 0 (-1)) ((csr (csr C t 0 p0) t 1 p1).1) 1 (-1)) ((csr (csr C t 0 p0) t 1 p1).1) 2 (-1)) ((csr (csr C t 0 p0) t 1 p1).1) 3 (-1)) ((csr (csr C t 0 p0) t 1 p1).1) 4 (-1)) ((csr (csr C t 0 p0) t 1 p1).1) 5 (-1)) ((csr (csr C t 0 p0) t 1 p1).1) 6 (-1))) dX6_init_47 hT1 ⟨by decide, by decide, by decide⟩ rfl ?_
  refine ag_dup dX6_init_48 rfl ?_
  refine ag_bipush (v := 7) dX6_init_49 (by decide) ?_
  refine ag_iconst (v := (-1)) dX6_init_51 rfl ?_
  refine cr_is (C2 := (csi (csi (csi (csi (csi (csi (csi (csi (cnw (csr (csr C t 0 p0) t 1 p1) 20 8) ((csr (csr C t 0 p0) t 1 p1).1) 0 (-1)) ((csr (csr C t 0 p0) t 1 p1).1) 1 (-1)) ((csr (csr C t 0 p0) t 1 p1).1) 2 (-1)) ((csr (csr C t 0 p0) t 1 p1).1) 3 (-1)) ((csr (csr C t 0 p0) t 1 p1).1) 4 (-1)) ((csr (csr C t 0 p0) t 1 p1).1) 5 (-1)) ((csr (csr C t 0 p0) t 1 p1).1) 6 (-1)) ((csr (csr C t 0 p0) t 1 p1).1) 7 (-1))) dX6_init_52 hT1 ⟨by decide, by decide, by decide⟩ rfl ?_
  refine cr_prF (r := (some ((csr (csr C t 0 p0) t 1 p1).1))) (C2 := (csr (csi (csi (csi (csi (csi (csi (csi (csi (cnw (csr (csr C t 0 p0) t 1 p1) 20 8) ((csr (csr C t 0 p0) t 1 p1).1) 0 (-1)) ((csr (csr C t 0 p0) t 1 p1).1) 1 (-1)) ((csr (csr C t 0 p0) t 1 p1).1) 2 (-1)) ((csr (csr C t 0 p0) t 1 p1).1) 3 (-1)) ((csr (csr C t 0 p0) t 1 p1).1) 4 (-1)) ((csr (csr C t 0 p0) t 1 p1).1) 5 (-1)) ((csr (csr C t 0 p0) t 1 p1).1) 6 (-1)) ((csr (csr C t 0 p0) t 1 p1).1) 7 (-1)) t 2 (some ((csr (csr C t 0 p0) t 1 p1).1)))) dX6_init_53 rfl pw_6_19 rfl (Or.inr ⟨_, rfl⟩) hT2 rfl ?_
  refine ag_aload_n dX6_init_56 rfl (Or.inr ⟨_, rfl⟩) ?_
  refine ag_iconst (v := 2) dX6_init_57 rfl ?_
  refine cr_pi (C2 := (csi (csr (csi (csi (csi (csi (csi (csi (csi (csi (cnw (csr (csr C t 0 p0) t 1 p1) 20 8) ((csr (csr C t 0 p0) t 1 p1).1) 0 (-1)) ((csr (csr C t 0 p0) t 1 p1).1) 1 (-1)) ((csr (csr C t 0 p0) t 1 p1).1) 2 (-1)) ((csr (csr C t 0 p0) t 1 p1).1) 3 (-1)) ((csr (csr C t 0 p0) t 1 p1).1) 4 (-1)) ((csr (csr C t 0 p0) t 1 p1).1) 5 (-1)) ((csr (csr C t 0 p0) t 1 p1).1) 6 (-1)) ((csr (csr C t 0 p0) t 1 p1).1) 7 (-1)) t 2 (some ((csr (csr C t 0 p0) t 1 p1).1))) t 3 2)) dX6_init_58 pw_6_23 rfl hT2 (fun _ => ⟨rfl, rfl⟩) rfl ?_
  refine ag_aload_n dX6_init_61 rfl (Or.inr ⟨_, rfl⟩) ?_
  refine ag_iconst (v := 0) dX6_init_62 rfl ?_
  refine cr_pi (C2 := (csi (csi (csr (csi (csi (csi (csi (csi (csi (csi (csi (cnw (csr (csr C t 0 p0) t 1 p1) 20 8) ((csr (csr C t 0 p0) t 1 p1).1) 0 (-1)) ((csr (csr C t 0 p0) t 1 p1).1) 1 (-1)) ((csr (csr C t 0 p0) t 1 p1).1) 2 (-1)) ((csr (csr C t 0 p0) t 1 p1).1) 3 (-1)) ((csr (csr C t 0 p0) t 1 p1).1) 4 (-1)) ((csr (csr C t 0 p0) t 1 p1).1) 5 (-1)) ((csr (csr C t 0 p0) t 1 p1).1) 6 (-1)) ((csr (csr C t 0 p0) t 1 p1).1) 7 (-1)) t 2 (some ((csr (csr C t 0 p0) t 1 p1).1))) t 3 2) t 4 0)) dX6_init_63 pw_6_27 rfl hT2 (fun _ => ⟨rfl, rfl⟩) rfl ?_
  refine ag_aload_n dX6_init_66 rfl (Or.inr ⟨_, rfl⟩) ?_
  refine ag_iconst (v := 0) dX6_init_67 rfl ?_
  refine cr_pi (C2 := (csi (csi (csi (csr (csi (csi (csi (csi (csi (csi (csi (csi (cnw (csr (csr C t 0 p0) t 1 p1) 20 8) ((csr (csr C t 0 p0) t 1 p1).1) 0 (-1)) ((csr (csr C t 0 p0) t 1 p1).1) 1 (-1)) ((csr (csr C t 0 p0) t 1 p1).1) 2 (-1)) ((csr (csr C t 0 p0) t 1 p1).1) 3 (-1)) ((csr (csr C t 0 p0) t 1 p1).1) 4 (-1)) ((csr (csr C t 0 p0) t 1 p1).1) 5 (-1)) ((csr (csr C t 0 p0) t 1 p1).1) 6 (-1)) ((csr (csr C t 0 p0) t 1 p1).1) 7 (-1)) t 2 (some ((csr (csr C t 0 p0) t 1 p1).1))) t 3 2) t 4 0) t 5 0)) dX6_init_68 pw_6_30 rfl hT2 (fun _ => ⟨rfl, rfl⟩) rfl ?_
  refine ag_aload_n dX6_init_71 rfl (Or.inr ⟨_, rfl⟩) ?_
  refine ag_iconst (v := (-1)) dX6_init_72 rfl ?_
  refine cr_pi (C2 := (csi (csi (csi (csi (csr (csi (csi (csi (csi (csi (csi (csi (csi (cnw (csr (csr C t 0 p0) t 1 p1) 20 8) ((csr (csr C t 0 p0) t 1 p1).1) 0 (-1)) ((csr (csr C t 0 p0) t 1 p1).1) 1 (-1)) ((csr (csr C t 0 p0) t 1 p1).1) 2 (-1)) ((csr (csr C t 0 p0) t 1 p1).1) 3 (-1)) ((csr (csr C t 0 p0) t 1 p1).1) 4 (-1)) ((csr (csr C t 0 p0) t 1 p1).1) 5 (-1)) ((csr (csr C t 0 p0) t 1 p1).1) 6 (-1)) ((csr (csr C t 0 p0) t 1 p1).1) 7 (-1)) t 2 (some ((csr (csr C t 0 p0) t 1 p1).1))) t 3 2) t 4 0) t 5 0) t 6 (-1))) dX6_init_73 pw_6_33 rfl hT2 (fun _ => ⟨rfl, rfl⟩) rfl ?_
  refine ag_aload_n dX6_init_76 rfl (Or.inr ⟨_, rfl⟩) ?_
  refine ag_iconst (v := 0) dX6_init_77 rfl ?_
  refine cr_pi (C2 := (csi (csi (csi (csi (csi (csr (csi (csi (csi (csi (csi (csi (csi (csi (cnw (csr (csr C t 0 p0) t 1 p1) 20 8) ((csr (csr C t 0 p0) t 1 p1).1) 0 (-1)) ((csr (csr C t 0 p0) t 1 p1).1) 1 (-1)) ((csr (csr C t 0 p0) t 1 p1).1) 2 (-1)) ((csr (csr C t 0 p0) t 1 p1).1) 3 (-1)) ((csr (csr C t 0 p0) t 1 p1).1) 4 (-1)) ((csr (csr C t 0 p0) t 1 p1).1) 5 (-1)) ((csr (csr C t 0 p0) t 1 p1).1) 6 (-1)) ((csr (csr C t 0 p0) t 1 p1).1) 7 (-1)) t 2 (some ((csr (csr C t 0 p0) t 1 p1).1))) t 3 2) t 4 0) t 5 0) t 6 (-1)) t 7 0)) dX6_init_78 pw_6_36 rfl hT2 (fun _ => ⟨rfl, rfl⟩) rfl ?_
  exact ag_ret (v := none) dX6_init_81 rfl ⟨_, rfl, _, rfl, h⟩ rfl
theorem dX6_readExpression_0 : decode cX6_readExpression 0 = .ok (.aload_n 0, 1) := by decide +kernel
theorem dX6_readExpression_1 : decode cX6_readExpression 1 = .ok (.getfield 19, 3) := by decide +kernel
theorem dX6_readExpression_4 : decode cX6_readExpression 4 = .ok (.iconst 0, 1) := by decide +kernel
theorem dX6_readExpression_5 : decode cX6_readExpression 5 = .ok (.iconst 0, 1) := by decide +kernel
theorem dX6_readExpression_6 : decode cX6_readExpression 6 = .ok (.iastore, 1) := by decide +kernel
theorem dX6_readExpression_7 : decode cX6_readExpression 7 = .ok (.aload_n 0, 1) := by decide +kernel
theorem dX6_readExpression_8 : decode cX6_readExpression 8 = .ok (.getfield 19, 3) := by decide +kernel
theorem dX6_readExpression_11 : decode cX6_readExpression 11 = .ok (.iconst 1, 1) := by decide +kernel
theorem dX6_readExpression_12 : decode cX6_readExpression 12 = .ok (.iconst 1, 1) := by decide +kernel
theorem dX6_readExpression_13 : decode cX6_readExpression 13 = .ok (.iastore, 1) := by decide +kernel
theorem dX6_readExpression_14 : decode cX6_readExpression 14 = .ok (.aload_n 0, 1) := by decide +kernel
theorem dX6_readExpression_15 : decode cX6_readExpression 15 = .ok (.invokevirtual 39, 3) := by decide +kernel
theorem dX6_readExpression_18 : decode cX6_readExpression 18 = .ok (.areturn, 1) := by decide +kernel
set_option maxRecDepth 20000 in
set_option maxHeartbeats 4000000 in
theorem w_X6_readExpression {c : cX} {d : Nat} {C : cS} {K : Option Value → cS → Prop} (t : Nat) (h : cT C t 6 8 ∧ (∃ a2 : Nat, (cR C t 2) = some a2 ∧ (∃ n5 : Nat, cT C a2 20 n5 ∧ (∃ j6 : Nat, am_ix 0 j6 n5 ∧ (∃ j8 : Nat, am_ix 1 j8 n5 ∧ (cM c d eX6_readToEnd (.ref t :: []) (csi (csi C a2 j6 0) a2 j8 1) (fun v C10 => ∃ z11 : Option Nat, v = some (va_rf z11) ∧ cle (csi (csi C a2 j6 0) a2 j8 1) C10 ∧ (K (some (va_rf z11)) C10)))))))) : cM c (d + 1) eX6_readExpression [.ref t] C K := by
  refine cM.of2 (lv := [some (.ref t)]) (by decide) (Nat.le_of_ble_eq_true rfl) rfl ?_
  refine ag_aload_n dX6_readExpression_0 rfl (Or.inr ⟨_, rfl⟩) ?_
  obtain ⟨hT1, h⟩ := h
  refine cr_get (v := va_rf (cR C t 2)) dX6_readExpression_1 fw_6_19 hT1 rfl ?_
  refine ag_iconst (v := 0) dX6_readExpression_4 rfl ?_
  refine ag_iconst (v := 0) dX6_readExpression_5 rfl ?_
  obtain ⟨a2, hr3, h⟩ := h
  refine cr_stk (st' := [.int 0, .int 0, .ref a2]) (by rw [hr3]; rfl) ?_
  obtain ⟨n5, hT4, h⟩ := h
  obtain ⟨j6, hj7, h⟩ := h
  refine cr_is (C2 := (csi C a2 j6 0)) dX6_readExpression_6 hT4 hj7 rfl ?_
  refine ag_aload_n dX6_readExpression_7 rfl (Or.inr ⟨_, rfl⟩) ?_
  refine cr_get (v := va_rf (cR C t 2)) dX6_readExpression_8 fw_6_19 hT1 rfl ?_
  refine ag_iconst (v := 1) dX6_readExpression_11 rfl ?_
  refine ag_iconst (v := 1) dX6_readExpression_12 rfl ?_
  refine cr_stk (st' := [.int 1, .int 1, .ref a2]) (by rw [hr3]; rfl) ?_
  obtain ⟨j8, hj9, h⟩ := h
  refine cr_is (C2 := (csi (csi C a2 j6 0) a2 j8 1)) dX6_readExpression_13 hT4 hj9 rfl ?_
  refine ag_aload_n dX6_readExpression_14 rfl (Or.inr ⟨_, rfl⟩) ?_
  refine cr_callV (as := []) (rest := []) dX6_readExpression_15 me_X6_readToEnd mi_X6_readToEnd lk_6_39 hT1 rfl rfl (Nat.le_of_ble_eq_true rfl) ?_
  refine cM.mono h ?_
  rintro v C10 ⟨z11, rfl, hL12, h⟩
  have hT13 := cT.le (C := (csi (csi C a2 j6 0) a2 j8 1)) hT1 hL12
  have hT14 := cT.le (C := (csi (csi C a2 j6 0) a2 j8 1)) hT4 hL12
  show cG _ _ _ _ _ _ [va_rf z11] _
  refine cr_stk (st' := [va_rf z11]) rfl ?_
  exact cr_aret dX6_readExpression_18 ⟨_, rfl, Or.inl ⟨_, rfl⟩⟩ ⟨_, rfl, _, rfl, h⟩
theorem dX6_readDefinition_0 : decode cX6_readDefinition 0 = .ok (.aload_n 0, 1) := by decide +kernel
theorem dX6_readDefinition_1 : decode cX6_readDefinition 1 = .ok (.aload_n 0, 1) := by decide +kernel
theorem dX6_readDefinition_2 : decode cX6_readDefinition 2 = .ok (.invokevirtual 43, 3) := by decide +kernel
theorem dX6_readDefinition_5 : decode cX6_readDefinition 5 = .ok (.invokestatic 47, 3) := by decide +kernel
theorem dX6_readDefinition_8 : decode cX6_readDefinition 8 = .ok (.putfield 33, 3) := by decide +kernel
theorem dX6_readDefinition_11 : decode cX6_readDefinition 11 = .ok (.aload_n 0, 1) := by decide +kernel
theorem dX6_readDefinition_12 : decode cX6_readDefinition 12 = .ok (.getfield 33, 3) := by decide +kernel
theorem dX6_readDefinition_15 : decode cX6_readDefinition 15 = .ok (.iconst (-1), 1) := by decide +kernel
theorem dX6_readDefinition_16 : decode cX6_readDefinition 16 = .ok (.if_icmp .eq 17, 3) := by decide +kernel
theorem dX6_readDefinition_19 : decode cX6_readDefinition 19 = .ok (.aload_n 0, 1) := by decide +kernel
theorem dX6_readDefinition_20 : decode cX6_readDefinition 20 = .ok (.getfield 15, 3) := by decide +kernel
theorem dX6_readDefinition_23 : decode cX6_readDefinition 23 = .ok (.aload_n 0, 1) := by decide +kernel
theorem dX6_readDefinition_24 : decode cX6_readDefinition 24 = .ok (.invokevirtual 43, 3) := by decide +kernel
theorem dX6_readDefinition_27 : decode cX6_readDefinition 27 = .ok (.invokestatic 51, 3) := by decide +kernel
theorem dX6_readDefinition_30 : decode cX6_readDefinition 30 = .ok (.ifnull 5, 3) := by decide +kernel
theorem dX6_readDefinition_33 : decode cX6_readDefinition 33 = .ok (.aconst_null, 1) := by decide +kernel
theorem dX6_readDefinition_34 : decode cX6_readDefinition 34 = .ok (.areturn, 1) := by decide +kernel
theorem dX6_readDefinition_35 : decode cX6_readDefinition 35 = .ok (.aload_n 0, 1) := by decide +kernel
theorem dX6_readDefinition_36 : decode cX6_readDefinition 36 = .ok (.dup, 1) := by decide +kernel
theorem dX6_readDefinition_37 : decode cX6_readDefinition 37 = .ok (.getfield 30, 3) := by decide +kernel
theorem dX6_readDefinition_40 : decode cX6_readDefinition 40 = .ok (.iconst 1, 1) := by decide +kernel
theorem dX6_readDefinition_41 : decode cX6_readDefinition 41 = .ok (.iadd, 1) := by decide +kernel
theorem dX6_readDefinition_42 : decode cX6_readDefinition 42 = .ok (.putfield 30, 3) := by decide +kernel
theorem dX6_readDefinition_45 : decode cX6_readDefinition 45 = .ok (.aload_n 0, 1) := by decide +kernel
theorem dX6_readDefinition_46 : decode cX6_readDefinition 46 = .ok (.aload_n 0, 1) := by decide +kernel
theorem dX6_readDefinition_47 : decode cX6_readDefinition 47 = .ok (.invokevirtual 43, 3) := by decide +kernel
theorem dX6_readDefinition_50 : decode cX6_readDefinition 50 = .ok (.invokevirtual 55, 3) := by decide +kernel
theorem dX6_readDefinition_53 : decode cX6_readDefinition 53 = .ok (.istore_n 1, 1) := by decide +kernel
theorem dX6_readDefinition_54 : decode cX6_readDefinition 54 = .ok (.iload_n 1, 1) := by decide +kernel
theorem dX6_readDefinition_55 : decode cX6_readDefinition 55 = .ok (.iconst (-1), 1) := by decide +kernel
theorem dX6_readDefinition_56 : decode cX6_readDefinition 56 = .ok (.if_icmp .ne 5, 3) := by decide +kernel
theorem dX6_readDefinition_59 : decode cX6_readDefinition 59 = .ok (.aconst_null, 1) := by decide +kernel
theorem dX6_readDefinition_60 : decode cX6_readDefinition 60 = .ok (.areturn, 1) := by decide +kernel
theorem dX6_readDefinition_61 : decode cX6_readDefinition 61 = .ok (.aload_n 0, 1) := by decide +kernel
theorem dX6_readDefinition_62 : decode cX6_readDefinition 62 = .ok (.dup, 1) := by decide +kernel
theorem dX6_readDefinition_63 : decode cX6_readDefinition 63 = .ok (.getfield 30, 3) := by decide +kernel
theorem dX6_readDefinition_66 : decode cX6_readDefinition 66 = .ok (.iconst 1, 1) := by decide +kernel
theorem dX6_readDefinition_67 : decode cX6_readDefinition 67 = .ok (.iadd, 1) := by decide +kernel
theorem dX6_readDefinition_68 : decode cX6_readDefinition 68 = .ok (.putfield 30, 3) := by decide +kernel
theorem dX6_readDefinition_71 : decode cX6_readDefinition 71 = .ok (.aload_n 0, 1) := by decide +kernel
theorem dX6_readDefinition_72 : decode cX6_readDefinition 72 = .ok (.aload_n 0, 1) := by decide +kernel
theorem dX6_readDefinition_73 : decode cX6_readDefinition 73 = .ok (.invokevirtual 43, 3) := by decide +kernel
theorem dX6_readDefinition_76 : decode cX6_readDefinition 76 = .ok (.invokestatic 58, 3) := by decide +kernel
theorem dX6_readDefinition_79 : decode cX6_readDefinition 79 = .ok (.putfield 36, 3) := by decide +kernel
theorem dX6_readDefinition_82 : decode cX6_readDefinition 82 = .ok (.aload_n 0, 1) := by decide +kernel
theorem dX6_readDefinition_83 : decode cX6_readDefinition 83 = .ok (.getfield 36, 3) := by decide +kernel
theorem dX6_readDefinition_86 : decode cX6_readDefinition 86 = .ok (.ifCond .ne 5, 3) := by decide +kernel
theorem dX6_readDefinition_89 : decode cX6_readDefinition 89 = .ok (.aconst_null, 1) := by decide +kernel
theorem dX6_readDefinition_90 : decode cX6_readDefinition 90 = .ok (.areturn, 1) := by decide +kernel
theorem dX6_readDefinition_91 : decode cX6_readDefinition 91 = .ok (.aload_n 0, 1) := by decide +kernel
theorem dX6_readDefinition_92 : decode cX6_readDefinition 92 = .ok (.dup, 1) := by decide +kernel
theorem dX6_readDefinition_93 : decode cX6_readDefinition 93 = .ok (.getfield 30, 3) := by decide +kernel
theorem dX6_readDefinition_96 : decode cX6_readDefinition 96 = .ok (.iconst 1, 1) := by decide +kernel
theorem dX6_readDefinition_97 : decode cX6_readDefinition 97 = .ok (.iadd, 1) := by decide +kernel
theorem dX6_readDefinition_98 : decode cX6_readDefinition 98 = .ok (.putfield 30, 3) := by decide +kernel
theorem dX6_readDefinition_101 : decode cX6_readDefinition 101 = .ok (.aload_n 0, 1) := by decide +kernel
theorem dX6_readDefinition_102 : decode cX6_readDefinition 102 = .ok (.getfield 19, 3) := by decide +kernel
theorem dX6_readDefinition_105 : decode cX6_readDefinition 105 = .ok (.iload_n 1, 1) := by decide +kernel
theorem dX6_readDefinition_106 : decode cX6_readDefinition 106 = .ok (.iconst 0, 1) := by decide +kernel
theorem dX6_readDefinition_107 : decode cX6_readDefinition 107 = .ok (.iastore, 1) := by decide +kernel
theorem dX6_readDefinition_108 : decode cX6_readDefinition 108 = .ok (.aload_n 0, 1) := by decide +kernel
theorem dX6_readDefinition_109 : decode cX6_readDefinition 109 = .ok (.invokevirtual 39, 3) := by decide +kernel
theorem dX6_readDefinition_112 : decode cX6_readDefinition 112 = .ok (.areturn, 1) := by decide +kernel
set_option maxRecDepth 20000 in
set_option maxHeartbeats 4000000 in
theorem w_X6_readDefinition {c : cX} {d : Nat} {C : cS} {K : Option Value → cS → Prop} (t : Nat) (h : cT C t 6 8 ∧ (cM c d eX6_peek (.ref t :: []) C (fun v C1 => ∃ z2 : Int32, v = some (.int z2) ∧ cle C C1 ∧ (cM c d eX9_functionIndex [.int z2] C1 (fun v C6 => ∃ z7 : Int32, v = some (.int z7) ∧ cle C1 C6 ∧ ((z7 = (-1) → (K (some (va_rf none)) (csi C6 t 6 z7))) ∧ (¬ z7 = (-1) → (cM c d eX6_peek (.ref t :: []) (csi C6 t 6 z7) (fun v C11 => ∃ z12 : Int32, v = some (.int z12) ∧ cle (csi C6 t 6 z7) C11 ∧ (cM c d eX9_functionOf [va_rf (cR C6 t 1), .int z12] C11 (fun v C15 => ∃ z16 : Option Nat, v = some (va_rf z16) ∧ cle C11 C15 ∧ ((z16 = none → (cM c d eX6_peek (.ref t :: []) (csi C15 t 5 ((cI C15 t 5) + 1)) (fun v C21 => ∃ z22 : Int32, v = some (.int z22) ∧ cle (csi C15 t 5 ((cI C15 t 5) + 1)) C21 ∧ (cM c d eX6_freeName (.ref t :: [.int z22]) C21 (fun v C25 => ∃ z26 : Int32, v = some (.int z26) ∧ cle C21 C25 ∧ ((¬ z26 = (-1) → (cM c d eX6_peek (.ref t :: []) (csi C25 t 5 ((cI C25 t 5) + 1)) (fun v C30 => ∃ z31 : Int32, v = some (.int z31) ∧ cle (csi C25 t 5 ((cI C25 t 5) + 1)) C30 ∧ (cM c d eX6_typeOf [.int z31] C30 (fun v C34 => ∃ z35 : Int32, v = some (.int z35) ∧ cle C30 C34 ∧ ((¬ z35 = 0 → (∃ a39 : Nat, (cR C34 t 2) = some a39 ∧ (∃ n42 : Nat, cT C34 a39 20 n42 ∧ (∃ j43 : Nat, am_ix z26 j43 n42 ∧ (cM c d eX6_readToEnd (.ref t :: []) (csi (csi (csi C34 t 7 z35) t 5 ((cI C34 t 5) + 1)) a39 j43 0) (fun v C45 => ∃ z46 : Option Nat, v = some (va_rf z46) ∧ cle (csi (csi (csi C34 t 7 z35) t 5 ((cI C34 t 5) + 1)) a39 j43 0) C45 ∧ (K (some (va_rf z46)) C45))))))) ∧ (z35 = 0 → (K (some (va_rf none)) (csi C34 t 7 z35))))))))) ∧ (z26 = (-1) → (K (some (va_rf none)) C25)))))))) ∧ (∀ a20 : Nat, z16 = some a20 → (K (some (va_rf none)) C15)))))))))))))) : cM c (d + 1) eX6_readDefinition [.ref t] C K := by
  refine cM.of2 (lv := [some (.ref t), none]) (by decide) (Nat.le_of_ble_eq_true rfl) rfl ?_
  refine ag_aload_n dX6_readDefinition_0 rfl (Or.inr ⟨_, rfl⟩) ?_
  refine ag_aload_n dX6_readDefinition_1 rfl (Or.inr ⟨_, rfl⟩) ?_
  obtain ⟨hT4, h⟩ := h
  refine cr_callV (as := []) (rest := [.ref t]) dX6_readDefinition_2 me_X6_peek mi_X6_peek lk_6_43 hT4 rfl rfl (Nat.le_of_ble_eq_true rfl) ?_
  refine cM.mono h ?_
  rintro v C1 ⟨z2, rfl, hL3, h⟩
  have hT5 := cT.le (C := C) hT4 hL3
  show cG _ _ _ _ _ _ [.int z2, .ref t] _
  refine cr_callSN (as := [.int z2]) (rest := [.ref t]) dX6_readDefinition_5 me_X9_functionIndex ms_X9_functionIndex ln_6_47 rfl rfl (Nat.le_of_ble_eq_true rfl) ?_
  refine cM.mono h ?_
  rintro v C6 ⟨z7, rfl, hL8, h⟩
  have hT9 := cT.le (C := C1) hT5 hL8
  show cG _ _ _ _ _ _ [.int z7, .ref t] _
  refine cr_pi (C2 := (csi C6 t 6 z7)) dX6_readDefinition_8 pw_6_33 rfl hT9 (fun _ => ⟨rfl, rfl⟩) rfl ?_
  refine ag_aload_n dX6_readDefinition_11 rfl (Or.inr ⟨_, rfl⟩) ?_
  refine cr_get (v := .int z7) dX6_readDefinition_12 fw_6_33 hT9 (by simp [cz, cK, csi, csj, csr, cI, cJ, cR, va_rf]) ?_
  refine ag_iconst (v := (-1)) dX6_readDefinition_15 rfl ?_
  refine ag_icmp_eq (tgt := 33) dX6_readDefinition_16 rfl (fun hc10 => ?_) (fun hc10 => ?_)
  · have h := h.1 hc10
    refine ag_null dX6_readDefinition_33 ?_
    refine cr_stk (st' := [va_rf none]) rfl ?_
    exact cr_aret dX6_readDefinition_34 ⟨_, rfl, Or.inl ⟨_, rfl⟩⟩ ⟨_, rfl, _, rfl, h⟩
  · have h := h.2 hc10
    refine ag_aload_n dX6_readDefinition_19 rfl (Or.inr ⟨_, rfl⟩) ?_
    refine cr_get (v := va_rf (cR C6 t 1)) dX6_readDefinition_20 fw_6_15 hT9 rfl ?_
    refine ag_aload_n dX6_readDefinition_23 rfl (Or.inr ⟨_, rfl⟩) ?_
    refine cr_callV (as := []) (rest := [va_rf (cR C6 t 1)]) dX6_readDefinition_24 me_X6_peek mi_X6_peek lk_6_43 hT9 rfl rfl (by simp only [List.map_cons, List.map_nil, List.sum_cons, List.sum_nil, va_rf_cat, am_ci, am_cl, am_cr, am_cn]; decide) ?_
    refine cM.mono h ?_
    rintro v C11 ⟨z12, rfl, hL13, h⟩
    have hT14 := cT.le (C := (csi C6 t 6 z7)) hT9 hL13
    show cG _ _ _ _ _ _ [.int z12, va_rf (cR C6 t 1)] _
    refine cr_callSN (as := [va_rf (cR C6 t 1), .int z12]) (rest := []) dX6_readDefinition_27 me_X9_functionOf ms_X9_functionOf ln_6_51 rfl rfl (Nat.le_of_ble_eq_true rfl) ?_
    refine cM.mono h ?_
    rintro v C15 ⟨z16, rfl, hL17, h⟩
    have hT18 := cT.le (C := C11) hT14 hL17
    show cG _ _ _ _ _ _ [va_rf z16] _
    refine cr_ifnull (tgt := 35) dX6_readDefinition_30 rfl (fun hr19 => ?_) (fun a20 hr19 => ?_)
    · have h := h.1 hr19
      refine ag_aload_n dX6_readDefinition_35 rfl (Or.inr ⟨_, rfl⟩) ?_
      refine ag_dup dX6_readDefinition_36 rfl ?_
      refine cr_get (v := .int (cI C15 t 5)) dX6_readDefinition_37 fw_6_30 hT18 rfl ?_
      refine ag_iconst (v := 1) dX6_readDefinition_40 rfl ?_
      refine ag_iadd dX6_readDefinition_41 rfl ?_
      refine cr_pi (C2 := (csi C15 t 5 ((cI C15 t 5) + 1))) dX6_readDefinition_42 pw_6_30 rfl hT18 (fun _ => ⟨rfl, rfl⟩) rfl ?_
      refine ag_aload_n dX6_readDefinition_45 rfl (Or.inr ⟨_, rfl⟩) ?_
      refine ag_aload_n dX6_readDefinition_46 rfl (Or.inr ⟨_, rfl⟩) ?_
      refine cr_callV (as := []) (rest := [.ref t]) dX6_readDefinition_47 me_X6_peek mi_X6_peek lk_6_43 hT18 rfl rfl (Nat.le_of_ble_eq_true rfl) ?_
      refine cM.mono h ?_
      rintro v C21 ⟨z22, rfl, hL23, h⟩
      have hT24 := cT.le (C := (csi C15 t 5 ((cI C15 t 5) + 1))) hT18 hL23
      show cG _ _ _ _ _ _ [.int z22, .ref t] _
      refine cr_callV (as := [.int z22]) (rest := []) dX6_readDefinition_50 me_X6_freeName mi_X6_freeName lk_6_55 hT24 rfl rfl (Nat.le_of_ble_eq_true rfl) ?_
      refine cM.mono h ?_
      rintro v C25 ⟨z26, rfl, hL27, h⟩
      have hT28 := cT.le (C := C21) hT24 hL27
      show cG _ _ _ _ _ _ [.int z26] _
      refine ag_istore_n (lv2 := [some (.ref t), some (.int z26)]) dX6_readDefinition_53 (Nat.le_of_ble_eq_true rfl) rfl ?_
      refine ag_iload_n dX6_readDefinition_54 rfl ?_
      refine ag_iconst (v := (-1)) dX6_readDefinition_55 rfl ?_
      refine ag_icmp_ne (tgt := 61) dX6_readDefinition_56 rfl (fun hc29 => ?_) (fun hc29 => ?_)
      · have h := h.1 hc29
        refine ag_aload_n dX6_readDefinition_61 rfl (Or.inr ⟨_, rfl⟩) ?_
        refine ag_dup dX6_readDefinition_62 rfl ?_
        refine cr_get (v := .int (cI C25 t 5)) dX6_readDefinition_63 fw_6_30 hT28 rfl ?_
        refine ag_iconst (v := 1) dX6_readDefinition_66 rfl ?_
        refine ag_iadd dX6_readDefinition_67 rfl ?_
        refine cr_pi (C2 := (csi C25 t 5 ((cI C25 t 5) + 1))) dX6_readDefinition_68 pw_6_30 rfl hT28 (fun _ => ⟨rfl, rfl⟩) rfl ?_
        refine ag_aload_n dX6_readDefinition_71 rfl (Or.inr ⟨_, rfl⟩) ?_
        refine ag_aload_n dX6_readDefinition_72 rfl (Or.inr ⟨_, rfl⟩) ?_
        refine cr_callV (as := []) (rest := [.ref t]) dX6_readDefinition_73 me_X6_peek mi_X6_peek lk_6_43 hT28 rfl rfl (Nat.le_of_ble_eq_true rfl) ?_
        refine cM.mono h ?_
        rintro v C30 ⟨z31, rfl, hL32, h⟩
        have hT33 := cT.le (C := (csi C25 t 5 ((cI C25 t 5) + 1))) hT28 hL32
        show cG _ _ _ _ _ _ [.int z31, .ref t] _
        refine cr_callS (as := [.int z31]) (rest := [.ref t]) dX6_readDefinition_76 me_X6_typeOf ms_X6_typeOf lk_6_58 rfl rfl (Nat.le_of_ble_eq_true rfl) ?_
        refine cM.mono h ?_
        rintro v C34 ⟨z35, rfl, hL36, h⟩
        have hT37 := cT.le (C := C30) hT33 hL36
        show cG _ _ _ _ _ _ [.int z35, .ref t] _
        refine cr_pi (C2 := (csi C34 t 7 z35)) dX6_readDefinition_79 pw_6_36 rfl hT37 (fun _ => ⟨rfl, rfl⟩) rfl ?_
        refine ag_aload_n dX6_readDefinition_82 rfl (Or.inr ⟨_, rfl⟩) ?_
        refine cr_get (v := .int z35) dX6_readDefinition_83 fw_6_36 hT37 (by simp [cz, cK, csi, csj, csr, cI, cJ, cR, va_rf]) ?_
        refine ag_if_ne (tgt := 91) dX6_readDefinition_86 rfl (fun hc38 => ?_) (fun hc38 => ?_)
        · have h := h.1 hc38
          refine ag_aload_n dX6_readDefinition_91 rfl (Or.inr ⟨_, rfl⟩) ?_
          refine ag_dup dX6_readDefinition_92 rfl ?_
          refine cr_get (v := .int (cI C34 t 5)) dX6_readDefinition_93 fw_6_30 hT37 rfl ?_
          refine ag_iconst (v := 1) dX6_readDefinition_96 rfl ?_
          refine ag_iadd dX6_readDefinition_97 rfl ?_
          refine cr_pi (C2 := (csi (csi C34 t 7 z35) t 5 ((cI C34 t 5) + 1))) dX6_readDefinition_98 pw_6_30 rfl hT37 (fun _ => ⟨rfl, rfl⟩) rfl ?_
          refine ag_aload_n dX6_readDefinition_101 rfl (Or.inr ⟨_, rfl⟩) ?_
          refine cr_get (v := va_rf (cR C34 t 2)) dX6_readDefinition_102 fw_6_19 hT37 rfl ?_
          refine ag_iload_n dX6_readDefinition_105 rfl ?_
          refine ag_iconst (v := 0) dX6_readDefinition_106 rfl ?_
          obtain ⟨a39, hr40, h⟩ := h
          refine cr_stk (st' := [.int 0, .int z26, .ref a39]) (by rw [hr40]; rfl) ?_
          obtain ⟨n42, hT41, h⟩ := h
          obtain ⟨j43, hj44, h⟩ := h
          refine cr_is (C2 := (csi (csi (csi C34 t 7 z35) t 5 ((cI C34 t 5) + 1)) a39 j43 0)) dX6_readDefinition_107 hT41 hj44 rfl ?_
          refine ag_aload_n dX6_readDefinition_108 rfl (Or.inr ⟨_, rfl⟩) ?_
          refine cr_callV (as := []) (rest := []) dX6_readDefinition_109 me_X6_readToEnd mi_X6_readToEnd lk_6_39 hT37 rfl rfl (Nat.le_of_ble_eq_true rfl) ?_
          refine cM.mono h ?_
          rintro v C45 ⟨z46, rfl, hL47, h⟩
          have hT48 := cT.le (C := (csi (csi (csi C34 t 7 z35) t 5 ((cI C34 t 5) + 1)) a39 j43 0)) hT37 hL47
          have hT49 := cT.le (C := (csi (csi (csi C34 t 7 z35) t 5 ((cI C34 t 5) + 1)) a39 j43 0)) hT41 hL47
          show cG _ _ _ _ _ _ [va_rf z46] _
          refine cr_stk (st' := [va_rf z46]) rfl ?_
          exact cr_aret dX6_readDefinition_112 ⟨_, rfl, Or.inl ⟨_, rfl⟩⟩ ⟨_, rfl, _, rfl, h⟩
        · have h := h.2 hc38
          refine ag_null dX6_readDefinition_89 ?_
          refine cr_stk (st' := [va_rf none]) rfl ?_
          exact cr_aret dX6_readDefinition_90 ⟨_, rfl, Or.inl ⟨_, rfl⟩⟩ ⟨_, rfl, _, rfl, h⟩
      · have h := h.2 hc29
        refine ag_null dX6_readDefinition_59 ?_
        refine cr_stk (st' := [va_rf none]) rfl ?_
        exact cr_aret dX6_readDefinition_60 ⟨_, rfl, Or.inl ⟨_, rfl⟩⟩ ⟨_, rfl, _, rfl, h⟩
    · have h := h.2 a20 hr19
      refine ag_null dX6_readDefinition_33 ?_
      refine cr_stk (st' := [va_rf none]) rfl ?_
      exact cr_aret dX6_readDefinition_34 ⟨_, rfl, Or.inl ⟨_, rfl⟩⟩ ⟨_, rfl, _, rfl, h⟩
