theorem dX10_conclude_0 : decode cX10_conclude 0 = .ok (.aload_n 0, 1) := by decide +kernel
theorem dX10_conclude_1 : decode cX10_conclude 1 = .ok (.iload_n 1, 1) := by decide +kernel
theorem dX10_conclude_2 : decode cX10_conclude 2 = .ok (.invokevirtual 256, 3) := by decide +kernel
theorem dX10_conclude_5 : decode cX10_conclude 5 = .ok (.aload_n 0, 1) := by decide +kernel
theorem dX10_conclude_6 : decode cX10_conclude 6 = .ok (.getfield 17, 3) := by decide +kernel
theorem dX10_conclude_9 : decode cX10_conclude 9 = .ok (.iload_n 1, 1) := by decide +kernel
theorem dX10_conclude_10 : decode cX10_conclude 10 = .ok (.iaload, 1) := by decide +kernel
theorem dX10_conclude_11 : decode cX10_conclude 11 = .ok (.lookupswitch 324 #[(33, 257), (35, 179), (38, 300), (43, 284), (45, 284), (46, 199), (48, 169), (58, 316), (60, 284), (63, 292), (65, 265), (66, 227), (67, 273), (68, 265), (69, 237), (78, 218), (80, 247), (97, 210), (124, 308), (126, 189)], 169) := by decide +kernel
theorem dX10_conclude_180 : decode cX10_conclude 180 = .ok (.aload_n 0, 1) := by decide +kernel
theorem dX10_conclude_181 : decode cX10_conclude 181 = .ok (.iload_n 1, 1) := by decide +kernel
theorem dX10_conclude_182 : decode cX10_conclude 182 = .ok (.iconst 1, 1) := by decide +kernel
theorem dX10_conclude_183 : decode cX10_conclude 183 = .ok (.iconst (-1), 1) := by decide +kernel
theorem dX10_conclude_184 : decode cX10_conclude 184 = .ok (.invokevirtual 235, 3) := by decide +kernel
theorem dX10_conclude_187 : decode cX10_conclude 187 = .ok (.goto 153, 3) := by decide +kernel
theorem dX10_conclude_190 : decode cX10_conclude 190 = .ok (.aload_n 0, 1) := by decide +kernel
theorem dX10_conclude_191 : decode cX10_conclude 191 = .ok (.iload_n 1, 1) := by decide +kernel
theorem dX10_conclude_192 : decode cX10_conclude 192 = .ok (.iconst 2, 1) := by decide +kernel
theorem dX10_conclude_193 : decode cX10_conclude 193 = .ok (.iconst (-1), 1) := by decide +kernel
theorem dX10_conclude_194 : decode cX10_conclude 194 = .ok (.invokevirtual 235, 3) := by decide +kernel
theorem dX10_conclude_197 : decode cX10_conclude 197 = .ok (.goto 143, 3) := by decide +kernel
theorem dX10_conclude_200 : decode cX10_conclude 200 = .ok (.aload_n 0, 1) := by decide +kernel
theorem dX10_conclude_201 : decode cX10_conclude 201 = .ok (.iload_n 1, 1) := by decide +kernel
theorem dX10_conclude_202 : decode cX10_conclude 202 = .ok (.iconst 4, 1) := by decide +kernel
theorem dX10_conclude_203 : decode cX10_conclude 203 = .ok (.iconst (-1), 1) := by decide +kernel
theorem dX10_conclude_204 : decode cX10_conclude 204 = .ok (.invokevirtual 235, 3) := by decide +kernel
theorem dX10_conclude_207 : decode cX10_conclude 207 = .ok (.goto 133, 3) := by decide +kernel
theorem dX10_conclude_210 : decode cX10_conclude 210 = .ok (.aload_n 0, 1) := by decide +kernel
theorem dX10_conclude_211 : decode cX10_conclude 211 = .ok (.iload_n 1, 1) := by decide +kernel
theorem dX10_conclude_212 : decode cX10_conclude 212 = .ok (.bipush 8, 2) := by decide +kernel
theorem dX10_conclude_214 : decode cX10_conclude 214 = .ok (.iconst (-1), 1) := by decide +kernel
theorem dX10_conclude_215 : decode cX10_conclude 215 = .ok (.invokevirtual 235, 3) := by decide +kernel
theorem dX10_conclude_218 : decode cX10_conclude 218 = .ok (.goto 122, 3) := by decide +kernel
theorem dX10_conclude_221 : decode cX10_conclude 221 = .ok (.aload_n 0, 1) := by decide +kernel
theorem dX10_conclude_222 : decode cX10_conclude 222 = .ok (.iload_n 1, 1) := by decide +kernel
theorem dX10_conclude_223 : decode cX10_conclude 223 = .ok (.invokevirtual 259, 3) := by decide +kernel
theorem dX10_conclude_226 : decode cX10_conclude 226 = .ok (.goto 114, 3) := by decide +kernel
theorem dX10_conclude_229 : decode cX10_conclude 229 = .ok (.aload_n 0, 1) := by decide +kernel
theorem dX10_conclude_230 : decode cX10_conclude 230 = .ok (.iload_n 1, 1) := by decide +kernel
theorem dX10_conclude_231 : decode cX10_conclude 231 = .ok (.iconst 1, 1) := by decide +kernel
theorem dX10_conclude_232 : decode cX10_conclude 232 = .ok (.invokevirtual 262, 3) := by decide +kernel
theorem dX10_conclude_235 : decode cX10_conclude 235 = .ok (.goto 105, 3) := by decide +kernel
theorem dX10_conclude_238 : decode cX10_conclude 238 = .ok (.aload_n 0, 1) := by decide +kernel
theorem dX10_conclude_239 : decode cX10_conclude 239 = .ok (.iload_n 1, 1) := by decide +kernel
theorem dX10_conclude_240 : decode cX10_conclude 240 = .ok (.bipush 6, 2) := by decide +kernel
theorem dX10_conclude_242 : decode cX10_conclude 242 = .ok (.invokevirtual 262, 3) := by decide +kernel
theorem dX10_conclude_245 : decode cX10_conclude 245 = .ok (.goto 95, 3) := by decide +kernel
theorem dX10_conclude_248 : decode cX10_conclude 248 = .ok (.aload_n 0, 1) := by decide +kernel
theorem dX10_conclude_249 : decode cX10_conclude 249 = .ok (.iload_n 1, 1) := by decide +kernel
theorem dX10_conclude_250 : decode cX10_conclude 250 = .ok (.bipush 8, 2) := by decide +kernel
theorem dX10_conclude_252 : decode cX10_conclude 252 = .ok (.invokevirtual 262, 3) := by decide +kernel
theorem dX10_conclude_255 : decode cX10_conclude 255 = .ok (.goto 85, 3) := by decide +kernel
theorem dX10_conclude_258 : decode cX10_conclude 258 = .ok (.aload_n 0, 1) := by decide +kernel
theorem dX10_conclude_259 : decode cX10_conclude 259 = .ok (.iload_n 1, 1) := by decide +kernel
theorem dX10_conclude_260 : decode cX10_conclude 260 = .ok (.bipush 16, 2) := by decide +kernel
theorem dX10_conclude_262 : decode cX10_conclude 262 = .ok (.invokevirtual 262, 3) := by decide +kernel
theorem dX10_conclude_265 : decode cX10_conclude 265 = .ok (.goto 75, 3) := by decide +kernel
theorem dX10_conclude_268 : decode cX10_conclude 268 = .ok (.aload_n 0, 1) := by decide +kernel
theorem dX10_conclude_269 : decode cX10_conclude 269 = .ok (.iload_n 1, 1) := by decide +kernel
theorem dX10_conclude_270 : decode cX10_conclude 270 = .ok (.invokevirtual 265, 3) := by decide +kernel
theorem dX10_conclude_273 : decode cX10_conclude 273 = .ok (.goto 67, 3) := by decide +kernel
theorem dX10_conclude_276 : decode cX10_conclude 276 = .ok (.aload_n 0, 1) := by decide +kernel
theorem dX10_conclude_277 : decode cX10_conclude 277 = .ok (.iload_n 1, 1) := by decide +kernel
theorem dX10_conclude_278 : decode cX10_conclude 278 = .ok (.invokevirtual 268, 3) := by decide +kernel
theorem dX10_conclude_281 : decode cX10_conclude 281 = .ok (.goto 59, 3) := by decide +kernel
theorem dX10_conclude_284 : decode cX10_conclude 284 = .ok (.aload_n 0, 1) := by decide +kernel
theorem dX10_conclude_285 : decode cX10_conclude 285 = .ok (.iload_n 1, 1) := by decide +kernel
theorem dX10_conclude_286 : decode cX10_conclude 286 = .ok (.bipush 16, 2) := by decide +kernel
theorem dX10_conclude_288 : decode cX10_conclude 288 = .ok (.iconst (-1), 1) := by decide +kernel
theorem dX10_conclude_289 : decode cX10_conclude 289 = .ok (.invokevirtual 235, 3) := by decide +kernel
theorem dX10_conclude_292 : decode cX10_conclude 292 = .ok (.goto 48, 3) := by decide +kernel
theorem dX10_conclude_295 : decode cX10_conclude 295 = .ok (.aload_n 0, 1) := by decide +kernel
theorem dX10_conclude_296 : decode cX10_conclude 296 = .ok (.iload_n 1, 1) := by decide +kernel
theorem dX10_conclude_297 : decode cX10_conclude 297 = .ok (.invokevirtual 271, 3) := by decide +kernel
theorem dX10_conclude_300 : decode cX10_conclude 300 = .ok (.goto 40, 3) := by decide +kernel
theorem dX10_conclude_303 : decode cX10_conclude 303 = .ok (.aload_n 0, 1) := by decide +kernel
theorem dX10_conclude_304 : decode cX10_conclude 304 = .ok (.iload_n 1, 1) := by decide +kernel
theorem dX10_conclude_305 : decode cX10_conclude 305 = .ok (.invokevirtual 274, 3) := by decide +kernel
theorem dX10_conclude_308 : decode cX10_conclude 308 = .ok (.goto 32, 3) := by decide +kernel
theorem dX10_conclude_311 : decode cX10_conclude 311 = .ok (.aload_n 0, 1) := by decide +kernel
theorem dX10_conclude_312 : decode cX10_conclude 312 = .ok (.iload_n 1, 1) := by decide +kernel
theorem dX10_conclude_313 : decode cX10_conclude 313 = .ok (.invokevirtual 277, 3) := by decide +kernel
theorem dX10_conclude_316 : decode cX10_conclude 316 = .ok (.goto 24, 3) := by decide +kernel
theorem dX10_conclude_319 : decode cX10_conclude 319 = .ok (.aload_n 0, 1) := by decide +kernel
theorem dX10_conclude_320 : decode cX10_conclude 320 = .ok (.iload_n 1, 1) := by decide +kernel
theorem dX10_conclude_321 : decode cX10_conclude 321 = .ok (.invokevirtual 280, 3) := by decide +kernel
theorem dX10_conclude_324 : decode cX10_conclude 324 = .ok (.goto 16, 3) := by decide +kernel
theorem dX10_conclude_327 : decode cX10_conclude 327 = .ok (.aload_n 0, 1) := by decide +kernel
theorem dX10_conclude_328 : decode cX10_conclude 328 = .ok (.iload_n 1, 1) := by decide +kernel
theorem dX10_conclude_329 : decode cX10_conclude 329 = .ok (.invokevirtual 283, 3) := by decide +kernel
theorem dX10_conclude_332 : decode cX10_conclude 332 = .ok (.goto 8, 3) := by decide +kernel
theorem dX10_conclude_335 : decode cX10_conclude 335 = .ok (.aload_n 0, 1) := by decide +kernel
theorem dX10_conclude_336 : decode cX10_conclude 336 = .ok (.iload_n 1, 1) := by decide +kernel
theorem dX10_conclude_337 : decode cX10_conclude 337 = .ok (.invokevirtual 286, 3) := by decide +kernel
theorem dX10_conclude_340 : decode cX10_conclude 340 = .ok (.return_, 1) := by decide +kernel
set_option maxRecDepth 20000 in
set_option maxHeartbeats 4000000 in
theorem w_X10_conclude {c : rX} {d : Nat} {S : rS} {K : Option Value → rS → Prop} (ho : rOK c) (p0 : Int32) (h : rM c d eX10_start (.ref c.2.2.1 :: [.int p0]) S (fun v S1 => v = none ∧ (∃ j3 : Nat, am_ix p0 j3 320 ∧ (((S1.1 4 j3) = 33 → (rM c d eX10_concludeNot (.ref c.2.2.1 :: [.int p0]) S1 (fun v S5 => v = none ∧ (K none S5)))) ∧ ((S1.1 4 j3) = 35 → (rM c d eX10_finish (.ref c.2.2.1 :: [.int p0, .int 2, .int (-1)]) S1 (fun v S7 => v = none ∧ (K none S7)))) ∧ ((S1.1 4 j3) = 38 → (rM c d eX10_concludeAnd (.ref c.2.2.1 :: [.int p0]) S1 (fun v S9 => v = none ∧ (K none S9)))) ∧ ((S1.1 4 j3) = 43 ∨ (S1.1 4 j3) = 45 ∨ (S1.1 4 j3) = 60 → (rM c d eX10_concludeSum (.ref c.2.2.1 :: [.int p0]) S1 (fun v S11 => v = none ∧ (K none S11)))) ∧ ((S1.1 4 j3) = 46 → (rM c d eX10_finish (.ref c.2.2.1 :: [.int p0, .int 8, .int (-1)]) S1 (fun v S13 => v = none ∧ (K none S13)))) ∧ ((S1.1 4 j3) = 48 → (rM c d eX10_finish (.ref c.2.2.1 :: [.int p0, .int 1, .int (-1)]) S1 (fun v S15 => v = none ∧ (K none S15)))) ∧ ((S1.1 4 j3) = 58 → (rM c d eX10_concludeLet (.ref c.2.2.1 :: [.int p0]) S1 (fun v S17 => v = none ∧ (K none S17)))) ∧ ((S1.1 4 j3) = 63 → (rM c d eX10_concludeIf (.ref c.2.2.1 :: [.int p0]) S1 (fun v S19 => v = none ∧ (K none S19)))) ∧ ((S1.1 4 j3) = 65 ∨ (S1.1 4 j3) = 68 → (rM c d eX10_concludeHalf (.ref c.2.2.1 :: [.int p0]) S1 (fun v S21 => v = none ∧ (K none S21)))) ∧ ((S1.1 4 j3) = 66 → (rM c d eX10_concludeTest (.ref c.2.2.1 :: [.int p0, .int 6]) S1 (fun v S23 => v = none ∧ (K none S23)))) ∧ ((S1.1 4 j3) = 67 → (rM c d eX10_finish (.ref c.2.2.1 :: [.int p0, .int 16, .int (-1)]) S1 (fun v S25 => v = none ∧ (K none S25)))) ∧ ((S1.1 4 j3) = 69 → (rM c d eX10_concludeTest (.ref c.2.2.1 :: [.int p0, .int 8]) S1 (fun v S27 => v = none ∧ (K none S27)))) ∧ ((S1.1 4 j3) = 78 → (rM c d eX10_concludeTest (.ref c.2.2.1 :: [.int p0, .int 1]) S1 (fun v S29 => v = none ∧ (K none S29)))) ∧ ((S1.1 4 j3) = 80 → (rM c d eX10_concludeTest (.ref c.2.2.1 :: [.int p0, .int 16]) S1 (fun v S31 => v = none ∧ (K none S31)))) ∧ ((S1.1 4 j3) = 97 → (rM c d eX10_concludeVariable (.ref c.2.2.1 :: [.int p0]) S1 (fun v S33 => v = none ∧ (K none S33)))) ∧ ((S1.1 4 j3) = 124 → (rM c d eX10_concludeOr (.ref c.2.2.1 :: [.int p0]) S1 (fun v S35 => v = none ∧ (K none S35)))) ∧ ((S1.1 4 j3) = 126 → (rM c d eX10_finish (.ref c.2.2.1 :: [.int p0, .int 4, .int (-1)]) S1 (fun v S37 => v = none ∧ (K none S37)))) ∧ (¬ (S1.1 4 j3) = 33 ∧ ¬ (S1.1 4 j3) = 35 ∧ ¬ (S1.1 4 j3) = 38 ∧ ¬ (S1.1 4 j3) = 43 ∧ ¬ (S1.1 4 j3) = 45 ∧ ¬ (S1.1 4 j3) = 46 ∧ ¬ (S1.1 4 j3) = 48 ∧ ¬ (S1.1 4 j3) = 58 ∧ ¬ (S1.1 4 j3) = 60 ∧ ¬ (S1.1 4 j3) = 63 ∧ ¬ (S1.1 4 j3) = 65 ∧ ¬ (S1.1 4 j3) = 66 ∧ ¬ (S1.1 4 j3) = 67 ∧ ¬ (S1.1 4 j3) = 68 ∧ ¬ (S1.1 4 j3) = 69 ∧ ¬ (S1.1 4 j3) = 78 ∧ ¬ (S1.1 4 j3) = 80 ∧ ¬ (S1.1 4 j3) = 97 ∧ ¬ (S1.1 4 j3) = 124 ∧ ¬ (S1.1 4 j3) = 126 → (rM c d eX10_concludeCall (.ref c.2.2.1 :: [.int p0]) S1 (fun v S39 => v = none ∧ (K none S39)))))))) : rM c (d + 1) eX10_conclude [.ref c.2.2.1, .int p0] S K := by
  refine rM.of (by decide) (Nat.le_of_ble_eq_true rfl) ?_
  show rG c eX10_conclude (d + 1) (rQ c K) 0 [some (.ref c.2.2.1), some (.int p0)] [] S
  refine ag_aload_n dX10_conclude_0 rfl (Or.inr ⟨_, rfl⟩) ?_
  refine ag_iload_n dX10_conclude_1 rfl ?_
  refine rr_call (as := [.int p0]) (rest := []) ho dX10_conclude_2 me_X10_start mi_X10_start lk_10_256 rfl rfl (Nat.le_of_ble_eq_true rfl) ?_
  refine rM.mono h ?_
  rintro v S1 ⟨rfl, h⟩
  show rG _ _ _ _ _ _ [] _
  refine ag_aload_n dX10_conclude_5 rfl (Or.inr ⟨_, rfl⟩) ?_
  refine rr_get (v := .ref (c.2.2.1 + (1 + 1))) ho dX10_conclude_6 fw_10_17 rfl ?_
  refine ag_iload_n dX10_conclude_9 rfl ?_
  obtain ⟨j3, hj4, h⟩ := h
  refine rr_il (v := S1.1 4 j3) ho dX10_conclude_10 (k := 1) (f := 4) rfl hj4 rfl ?_
  obtain ⟨q41, q42, q43, q44, q45, q46, q47, q48, q49, q50, q51, q52, q53, q54, q55, q56, q57, q58⟩ := h
  by_cases hk59 : (S1.1 4 j3) = 33
  · refine ag_lookup (tgt := 268) (off := 257) dX10_conclude_11 (by decide) (by rw [hk59]; decide) rfl ?_
    have h := q41 hk59
    refine ag_aload_n dX10_conclude_268 rfl (Or.inr ⟨_, rfl⟩) ?_
    refine ag_iload_n dX10_conclude_269 rfl ?_
    refine rr_call (as := [.int p0]) (rest := []) ho dX10_conclude_270 me_X10_concludeNot mi_X10_concludeNot lk_10_265 rfl rfl (Nat.le_of_ble_eq_true rfl) ?_
    refine rM.mono h ?_
    rintro v S5 ⟨rfl, h⟩
    show rG _ _ _ _ _ _ [] _
    refine ag_goto (tgt := 340) dX10_conclude_273 rfl ?_
    exact ag_ret (v := none) dX10_conclude_340 rfl ⟨_, rfl, _, rfl, h⟩ rfl
  · by_cases hk60 : (S1.1 4 j3) = 35
    · refine ag_lookup (tgt := 190) (off := 179) dX10_conclude_11 (by decide) (by rw [lv_osw (k := 33) hk59 (by decide)]; rw [hk60]; decide) rfl ?_
      have h := q42 hk60
      refine ag_aload_n dX10_conclude_190 rfl (Or.inr ⟨_, rfl⟩) ?_
      refine ag_iload_n dX10_conclude_191 rfl ?_
      refine ag_iconst (v := 2) dX10_conclude_192 rfl ?_
      refine ag_iconst (v := (-1)) dX10_conclude_193 rfl ?_
      refine rr_call (as := [.int p0, .int 2, .int (-1)]) (rest := []) ho dX10_conclude_194 me_X10_finish mi_X10_finish lk_10_235 rfl rfl (Nat.le_of_ble_eq_true rfl) ?_
      refine rM.mono h ?_
      rintro v S7 ⟨rfl, h⟩
      show rG _ _ _ _ _ _ [] _
      refine ag_goto (tgt := 340) dX10_conclude_197 rfl ?_
      exact ag_ret (v := none) dX10_conclude_340 rfl ⟨_, rfl, _, rfl, h⟩ rfl
    · by_cases hk61 : (S1.1 4 j3) = 38
      · refine ag_lookup (tgt := 311) (off := 300) dX10_conclude_11 (by decide) (by rw [lv_osw (k := 33) hk59 (by decide)]; rw [lv_osw (k := 35) hk60 (by decide)]; rw [hk61]; decide) rfl ?_
        have h := q43 hk61
        refine ag_aload_n dX10_conclude_311 rfl (Or.inr ⟨_, rfl⟩) ?_
        refine ag_iload_n dX10_conclude_312 rfl ?_
        refine rr_call (as := [.int p0]) (rest := []) ho dX10_conclude_313 me_X10_concludeAnd mi_X10_concludeAnd lk_10_277 rfl rfl (Nat.le_of_ble_eq_true rfl) ?_
        refine rM.mono h ?_
        rintro v S9 ⟨rfl, h⟩
        show rG _ _ _ _ _ _ [] _
        refine ag_goto (tgt := 340) dX10_conclude_316 rfl ?_
        exact ag_ret (v := none) dX10_conclude_340 rfl ⟨_, rfl, _, rfl, h⟩ rfl
      · by_cases hk62 : (S1.1 4 j3) = 43
        · refine ag_lookup (tgt := 295) (off := 284) dX10_conclude_11 (by decide) (by rw [lv_osw (k := 33) hk59 (by decide)]; rw [lv_osw (k := 35) hk60 (by decide)]; rw [lv_osw (k := 38) hk61 (by decide)]; rw [hk62]; decide) rfl ?_
          have h := q44 (Or.inl hk62)
          refine ag_aload_n dX10_conclude_295 rfl (Or.inr ⟨_, rfl⟩) ?_
          refine ag_iload_n dX10_conclude_296 rfl ?_
          refine rr_call (as := [.int p0]) (rest := []) ho dX10_conclude_297 me_X10_concludeSum mi_X10_concludeSum lk_10_271 rfl rfl (Nat.le_of_ble_eq_true rfl) ?_
          refine rM.mono h ?_
          rintro v S11 ⟨rfl, h⟩
          show rG _ _ _ _ _ _ [] _
          refine ag_goto (tgt := 340) dX10_conclude_300 rfl ?_
          exact ag_ret (v := none) dX10_conclude_340 rfl ⟨_, rfl, _, rfl, h⟩ rfl
        · by_cases hk63 : (S1.1 4 j3) = 45
          · refine ag_lookup (tgt := 295) (off := 284) dX10_conclude_11 (by decide) (by rw [lv_osw (k := 33) hk59 (by decide)]; rw [lv_osw (k := 35) hk60 (by decide)]; rw [lv_osw (k := 38) hk61 (by decide)]; rw [lv_osw (k := 43) hk62 (by decide)]; rw [hk63]; decide) rfl ?_
            have h := q44 (Or.inr (Or.inl hk63))
            refine ag_aload_n dX10_conclude_295 rfl (Or.inr ⟨_, rfl⟩) ?_
            refine ag_iload_n dX10_conclude_296 rfl ?_
            refine rr_call (as := [.int p0]) (rest := []) ho dX10_conclude_297 me_X10_concludeSum mi_X10_concludeSum lk_10_271 rfl rfl (Nat.le_of_ble_eq_true rfl) ?_
            refine rM.mono h ?_
            rintro v S11 ⟨rfl, h⟩
            show rG _ _ _ _ _ _ [] _
            refine ag_goto (tgt := 340) dX10_conclude_300 rfl ?_
            exact ag_ret (v := none) dX10_conclude_340 rfl ⟨_, rfl, _, rfl, h⟩ rfl
          · by_cases hk64 : (S1.1 4 j3) = 46
            · refine ag_lookup (tgt := 210) (off := 199) dX10_conclude_11 (by decide) (by rw [lv_osw (k := 33) hk59 (by decide)]; rw [lv_osw (k := 35) hk60 (by decide)]; rw [lv_osw (k := 38) hk61 (by decide)]; rw [lv_osw (k := 43) hk62 (by decide)]; rw [lv_osw (k := 45) hk63 (by decide)]; rw [hk64]; decide) rfl ?_
              have h := q45 hk64
              refine ag_aload_n dX10_conclude_210 rfl (Or.inr ⟨_, rfl⟩) ?_
              refine ag_iload_n dX10_conclude_211 rfl ?_
              refine ag_bipush (v := 8) dX10_conclude_212 (by decide) ?_
              refine ag_iconst (v := (-1)) dX10_conclude_214 rfl ?_
              refine rr_call (as := [.int p0, .int 8, .int (-1)]) (rest := []) ho dX10_conclude_215 me_X10_finish mi_X10_finish lk_10_235 rfl rfl (Nat.le_of_ble_eq_true rfl) ?_
              refine rM.mono h ?_
              rintro v S13 ⟨rfl, h⟩
              show rG _ _ _ _ _ _ [] _
              refine ag_goto (tgt := 340) dX10_conclude_218 rfl ?_
              exact ag_ret (v := none) dX10_conclude_340 rfl ⟨_, rfl, _, rfl, h⟩ rfl
            · by_cases hk65 : (S1.1 4 j3) = 48
              · refine ag_lookup (tgt := 180) (off := 169) dX10_conclude_11 (by decide) (by rw [lv_osw (k := 33) hk59 (by decide)]; rw [lv_osw (k := 35) hk60 (by decide)]; rw [lv_osw (k := 38) hk61 (by decide)]; rw [lv_osw (k := 43) hk62 (by decide)]; rw [lv_osw (k := 45) hk63 (by decide)]; rw [lv_osw (k := 46) hk64 (by decide)]; rw [hk65]; decide) rfl ?_
                have h := q46 hk65
                refine ag_aload_n dX10_conclude_180 rfl (Or.inr ⟨_, rfl⟩) ?_
                refine ag_iload_n dX10_conclude_181 rfl ?_
                refine ag_iconst (v := 1) dX10_conclude_182 rfl ?_
                refine ag_iconst (v := (-1)) dX10_conclude_183 rfl ?_
                refine rr_call (as := [.int p0, .int 1, .int (-1)]) (rest := []) ho dX10_conclude_184 me_X10_finish mi_X10_finish lk_10_235 rfl rfl (Nat.le_of_ble_eq_true rfl) ?_
                refine rM.mono h ?_
                rintro v S15 ⟨rfl, h⟩
                show rG _ _ _ _ _ _ [] _
                refine ag_goto (tgt := 340) dX10_conclude_187 rfl ?_
                exact ag_ret (v := none) dX10_conclude_340 rfl ⟨_, rfl, _, rfl, h⟩ rfl
              · by_cases hk66 : (S1.1 4 j3) = 58
                · refine ag_lookup (tgt := 327) (off := 316) dX10_conclude_11 (by decide) (by rw [lv_osw (k := 33) hk59 (by decide)]; rw [lv_osw (k := 35) hk60 (by decide)]; rw [lv_osw (k := 38) hk61 (by decide)]; rw [lv_osw (k := 43) hk62 (by decide)]; rw [lv_osw (k := 45) hk63 (by decide)]; rw [lv_osw (k := 46) hk64 (by decide)]; rw [lv_osw (k := 48) hk65 (by decide)]; rw [hk66]; decide) rfl ?_
                  have h := q47 hk66
                  refine ag_aload_n dX10_conclude_327 rfl (Or.inr ⟨_, rfl⟩) ?_
                  refine ag_iload_n dX10_conclude_328 rfl ?_
                  refine rr_call (as := [.int p0]) (rest := []) ho dX10_conclude_329 me_X10_concludeLet mi_X10_concludeLet lk_10_283 rfl rfl (Nat.le_of_ble_eq_true rfl) ?_
                  refine rM.mono h ?_
                  rintro v S17 ⟨rfl, h⟩
                  show rG _ _ _ _ _ _ [] _
                  refine ag_goto (tgt := 340) dX10_conclude_332 rfl ?_
                  exact ag_ret (v := none) dX10_conclude_340 rfl ⟨_, rfl, _, rfl, h⟩ rfl
                · by_cases hk67 : (S1.1 4 j3) = 60
                  · refine ag_lookup (tgt := 295) (off := 284) dX10_conclude_11 (by decide) (by rw [lv_osw (k := 33) hk59 (by decide)]; rw [lv_osw (k := 35) hk60 (by decide)]; rw [lv_osw (k := 38) hk61 (by decide)]; rw [lv_osw (k := 43) hk62 (by decide)]; rw [lv_osw (k := 45) hk63 (by decide)]; rw [lv_osw (k := 46) hk64 (by decide)]; rw [lv_osw (k := 48) hk65 (by decide)]; rw [lv_osw (k := 58) hk66 (by decide)]; rw [hk67]; decide) rfl ?_
                    have h := q44 (Or.inr (Or.inr hk67))
                    refine ag_aload_n dX10_conclude_295 rfl (Or.inr ⟨_, rfl⟩) ?_
                    refine ag_iload_n dX10_conclude_296 rfl ?_
                    refine rr_call (as := [.int p0]) (rest := []) ho dX10_conclude_297 me_X10_concludeSum mi_X10_concludeSum lk_10_271 rfl rfl (Nat.le_of_ble_eq_true rfl) ?_
                    refine rM.mono h ?_
                    rintro v S11 ⟨rfl, h⟩
                    show rG _ _ _ _ _ _ [] _
                    refine ag_goto (tgt := 340) dX10_conclude_300 rfl ?_
                    exact ag_ret (v := none) dX10_conclude_340 rfl ⟨_, rfl, _, rfl, h⟩ rfl
                  · by_cases hk68 : (S1.1 4 j3) = 63
                    · refine ag_lookup (tgt := 303) (off := 292) dX10_conclude_11 (by decide) (by rw [lv_osw (k := 33) hk59 (by decide)]; rw [lv_osw (k := 35) hk60 (by decide)]; rw [lv_osw (k := 38) hk61 (by decide)]; rw [lv_osw (k := 43) hk62 (by decide)]; rw [lv_osw (k := 45) hk63 (by decide)]; rw [lv_osw (k := 46) hk64 (by decide)]; rw [lv_osw (k := 48) hk65 (by decide)]; rw [lv_osw (k := 58) hk66 (by decide)]; rw [lv_osw (k := 60) hk67 (by decide)]; rw [hk68]; decide) rfl ?_
                      have h := q48 hk68
                      refine ag_aload_n dX10_conclude_303 rfl (Or.inr ⟨_, rfl⟩) ?_
                      refine ag_iload_n dX10_conclude_304 rfl ?_
                      refine rr_call (as := [.int p0]) (rest := []) ho dX10_conclude_305 me_X10_concludeIf mi_X10_concludeIf lk_10_274 rfl rfl (Nat.le_of_ble_eq_true rfl) ?_
                      refine rM.mono h ?_
                      rintro v S19 ⟨rfl, h⟩
                      show rG _ _ _ _ _ _ [] _
                      refine ag_goto (tgt := 340) dX10_conclude_308 rfl ?_
                      exact ag_ret (v := none) dX10_conclude_340 rfl ⟨_, rfl, _, rfl, h⟩ rfl
                    · by_cases hk69 : (S1.1 4 j3) = 65
                      · refine ag_lookup (tgt := 276) (off := 265) dX10_conclude_11 (by decide) (by rw [lv_osw (k := 33) hk59 (by decide)]; rw [lv_osw (k := 35) hk60 (by decide)]; rw [lv_osw (k := 38) hk61 (by decide)]; rw [lv_osw (k := 43) hk62 (by decide)]; rw [lv_osw (k := 45) hk63 (by decide)]; rw [lv_osw (k := 46) hk64 (by decide)]; rw [lv_osw (k := 48) hk65 (by decide)]; rw [lv_osw (k := 58) hk66 (by decide)]; rw [lv_osw (k := 60) hk67 (by decide)]; rw [lv_osw (k := 63) hk68 (by decide)]; rw [hk69]; decide) rfl ?_
                        have h := q49 (Or.inl hk69)
                        refine ag_aload_n dX10_conclude_276 rfl (Or.inr ⟨_, rfl⟩) ?_
                        refine ag_iload_n dX10_conclude_277 rfl ?_
                        refine rr_call (as := [.int p0]) (rest := []) ho dX10_conclude_278 me_X10_concludeHalf mi_X10_concludeHalf lk_10_268 rfl rfl (Nat.le_of_ble_eq_true rfl) ?_
                        refine rM.mono h ?_
                        rintro v S21 ⟨rfl, h⟩
                        show rG _ _ _ _ _ _ [] _
                        refine ag_goto (tgt := 340) dX10_conclude_281 rfl ?_
                        exact ag_ret (v := none) dX10_conclude_340 rfl ⟨_, rfl, _, rfl, h⟩ rfl
                      · by_cases hk70 : (S1.1 4 j3) = 66
                        · refine ag_lookup (tgt := 238) (off := 227) dX10_conclude_11 (by decide) (by rw [lv_osw (k := 33) hk59 (by decide)]; rw [lv_osw (k := 35) hk60 (by decide)]; rw [lv_osw (k := 38) hk61 (by decide)]; rw [lv_osw (k := 43) hk62 (by decide)]; rw [lv_osw (k := 45) hk63 (by decide)]; rw [lv_osw (k := 46) hk64 (by decide)]; rw [lv_osw (k := 48) hk65 (by decide)]; rw [lv_osw (k := 58) hk66 (by decide)]; rw [lv_osw (k := 60) hk67 (by decide)]; rw [lv_osw (k := 63) hk68 (by decide)]; rw [lv_osw (k := 65) hk69 (by decide)]; rw [hk70]; decide) rfl ?_
                          have h := q50 hk70
                          refine ag_aload_n dX10_conclude_238 rfl (Or.inr ⟨_, rfl⟩) ?_
                          refine ag_iload_n dX10_conclude_239 rfl ?_
                          refine ag_bipush (v := 6) dX10_conclude_240 (by decide) ?_
                          refine rr_call (as := [.int p0, .int 6]) (rest := []) ho dX10_conclude_242 me_X10_concludeTest mi_X10_concludeTest lk_10_262 rfl rfl (Nat.le_of_ble_eq_true rfl) ?_
                          refine rM.mono h ?_
                          rintro v S23 ⟨rfl, h⟩
                          show rG _ _ _ _ _ _ [] _
                          refine ag_goto (tgt := 340) dX10_conclude_245 rfl ?_
                          exact ag_ret (v := none) dX10_conclude_340 rfl ⟨_, rfl, _, rfl, h⟩ rfl
                        · by_cases hk71 : (S1.1 4 j3) = 67
                          · refine ag_lookup (tgt := 284) (off := 273) dX10_conclude_11 (by decide) (by rw [lv_osw (k := 33) hk59 (by decide)]; rw [lv_osw (k := 35) hk60 (by decide)]; rw [lv_osw (k := 38) hk61 (by decide)]; rw [lv_osw (k := 43) hk62 (by decide)]; rw [lv_osw (k := 45) hk63 (by decide)]; rw [lv_osw (k := 46) hk64 (by decide)]; rw [lv_osw (k := 48) hk65 (by decide)]; rw [lv_osw (k := 58) hk66 (by decide)]; rw [lv_osw (k := 60) hk67 (by decide)]; rw [lv_osw (k := 63) hk68 (by decide)]; rw [lv_osw (k := 65) hk69 (by decide)]; rw [lv_osw (k := 66) hk70 (by decide)]; rw [hk71]; decide) rfl ?_
                            have h := q51 hk71
                            refine ag_aload_n dX10_conclude_284 rfl (Or.inr ⟨_, rfl⟩) ?_
                            refine ag_iload_n dX10_conclude_285 rfl ?_
                            refine ag_bipush (v := 16) dX10_conclude_286 (by decide) ?_
                            refine ag_iconst (v := (-1)) dX10_conclude_288 rfl ?_
                            refine rr_call (as := [.int p0, .int 16, .int (-1)]) (rest := []) ho dX10_conclude_289 me_X10_finish mi_X10_finish lk_10_235 rfl rfl (Nat.le_of_ble_eq_true rfl) ?_
                            refine rM.mono h ?_
                            rintro v S25 ⟨rfl, h⟩
                            show rG _ _ _ _ _ _ [] _
                            refine ag_goto (tgt := 340) dX10_conclude_292 rfl ?_
                            exact ag_ret (v := none) dX10_conclude_340 rfl ⟨_, rfl, _, rfl, h⟩ rfl
                          · by_cases hk72 : (S1.1 4 j3) = 68
                            · refine ag_lookup (tgt := 276) (off := 265) dX10_conclude_11 (by decide) (by rw [lv_osw (k := 33) hk59 (by decide)]; rw [lv_osw (k := 35) hk60 (by decide)]; rw [lv_osw (k := 38) hk61 (by decide)]; rw [lv_osw (k := 43) hk62 (by decide)]; rw [lv_osw (k := 45) hk63 (by decide)]; rw [lv_osw (k := 46) hk64 (by decide)]; rw [lv_osw (k := 48) hk65 (by decide)]; rw [lv_osw (k := 58) hk66 (by decide)]; rw [lv_osw (k := 60) hk67 (by decide)]; rw [lv_osw (k := 63) hk68 (by decide)]; rw [lv_osw (k := 65) hk69 (by decide)]; rw [lv_osw (k := 66) hk70 (by decide)]; rw [lv_osw (k := 67) hk71 (by decide)]; rw [hk72]; decide) rfl ?_
                              have h := q49 (Or.inr hk72)
                              refine ag_aload_n dX10_conclude_276 rfl (Or.inr ⟨_, rfl⟩) ?_
                              refine ag_iload_n dX10_conclude_277 rfl ?_
                              refine rr_call (as := [.int p0]) (rest := []) ho dX10_conclude_278 me_X10_concludeHalf mi_X10_concludeHalf lk_10_268 rfl rfl (Nat.le_of_ble_eq_true rfl) ?_
                              refine rM.mono h ?_
                              rintro v S21 ⟨rfl, h⟩
                              show rG _ _ _ _ _ _ [] _
                              refine ag_goto (tgt := 340) dX10_conclude_281 rfl ?_
                              exact ag_ret (v := none) dX10_conclude_340 rfl ⟨_, rfl, _, rfl, h⟩ rfl
                            · by_cases hk73 : (S1.1 4 j3) = 69
                              · refine ag_lookup (tgt := 248) (off := 237) dX10_conclude_11 (by decide) (by rw [lv_osw (k := 33) hk59 (by decide)]; rw [lv_osw (k := 35) hk60 (by decide)]; rw [lv_osw (k := 38) hk61 (by decide)]; rw [lv_osw (k := 43) hk62 (by decide)]; rw [lv_osw (k := 45) hk63 (by decide)]; rw [lv_osw (k := 46) hk64 (by decide)]; rw [lv_osw (k := 48) hk65 (by decide)]; rw [lv_osw (k := 58) hk66 (by decide)]; rw [lv_osw (k := 60) hk67 (by decide)]; rw [lv_osw (k := 63) hk68 (by decide)]; rw [lv_osw (k := 65) hk69 (by decide)]; rw [lv_osw (k := 66) hk70 (by decide)]; rw [lv_osw (k := 67) hk71 (by decide)]; rw [lv_osw (k := 68) hk72 (by decide)]; rw [hk73]; decide) rfl ?_
                                have h := q52 hk73
                                refine ag_aload_n dX10_conclude_248 rfl (Or.inr ⟨_, rfl⟩) ?_
                                refine ag_iload_n dX10_conclude_249 rfl ?_
                                refine ag_bipush (v := 8) dX10_conclude_250 (by decide) ?_
                                refine rr_call (as := [.int p0, .int 8]) (rest := []) ho dX10_conclude_252 me_X10_concludeTest mi_X10_concludeTest lk_10_262 rfl rfl (Nat.le_of_ble_eq_true rfl) ?_
                                refine rM.mono h ?_
                                rintro v S27 ⟨rfl, h⟩
                                show rG _ _ _ _ _ _ [] _
                                refine ag_goto (tgt := 340) dX10_conclude_255 rfl ?_
                                exact ag_ret (v := none) dX10_conclude_340 rfl ⟨_, rfl, _, rfl, h⟩ rfl
                              · by_cases hk74 : (S1.1 4 j3) = 78
                                · refine ag_lookup (tgt := 229) (off := 218) dX10_conclude_11 (by decide) (by rw [lv_osw (k := 33) hk59 (by decide)]; rw [lv_osw (k := 35) hk60 (by decide)]; rw [lv_osw (k := 38) hk61 (by decide)]; rw [lv_osw (k := 43) hk62 (by decide)]; rw [lv_osw (k := 45) hk63 (by decide)]; rw [lv_osw (k := 46) hk64 (by decide)]; rw [lv_osw (k := 48) hk65 (by decide)]; rw [lv_osw (k := 58) hk66 (by decide)]; rw [lv_osw (k := 60) hk67 (by decide)]; rw [lv_osw (k := 63) hk68 (by decide)]; rw [lv_osw (k := 65) hk69 (by decide)]; rw [lv_osw (k := 66) hk70 (by decide)]; rw [lv_osw (k := 67) hk71 (by decide)]; rw [lv_osw (k := 68) hk72 (by decide)]; rw [lv_osw (k := 69) hk73 (by decide)]; rw [hk74]; decide) rfl ?_
                                  have h := q53 hk74
                                  refine ag_aload_n dX10_conclude_229 rfl (Or.inr ⟨_, rfl⟩) ?_
                                  refine ag_iload_n dX10_conclude_230 rfl ?_
                                  refine ag_iconst (v := 1) dX10_conclude_231 rfl ?_
                                  refine rr_call (as := [.int p0, .int 1]) (rest := []) ho dX10_conclude_232 me_X10_concludeTest mi_X10_concludeTest lk_10_262 rfl rfl (Nat.le_of_ble_eq_true rfl) ?_
                                  refine rM.mono h ?_
                                  rintro v S29 ⟨rfl, h⟩
                                  show rG _ _ _ _ _ _ [] _
                                  refine ag_goto (tgt := 340) dX10_conclude_235 rfl ?_
                                  exact ag_ret (v := none) dX10_conclude_340 rfl ⟨_, rfl, _, rfl, h⟩ rfl
                                · by_cases hk75 : (S1.1 4 j3) = 80
                                  · refine ag_lookup (tgt := 258) (off := 247) dX10_conclude_11 (by decide) (by rw [lv_osw (k := 33) hk59 (by decide)]; rw [lv_osw (k := 35) hk60 (by decide)]; rw [lv_osw (k := 38) hk61 (by decide)]; rw [lv_osw (k := 43) hk62 (by decide)]; rw [lv_osw (k := 45) hk63 (by decide)]; rw [lv_osw (k := 46) hk64 (by decide)]; rw [lv_osw (k := 48) hk65 (by decide)]; rw [lv_osw (k := 58) hk66 (by decide)]; rw [lv_osw (k := 60) hk67 (by decide)]; rw [lv_osw (k := 63) hk68 (by decide)]; rw [lv_osw (k := 65) hk69 (by decide)]; rw [lv_osw (k := 66) hk70 (by decide)]; rw [lv_osw (k := 67) hk71 (by decide)]; rw [lv_osw (k := 68) hk72 (by decide)]; rw [lv_osw (k := 69) hk73 (by decide)]; rw [lv_osw (k := 78) hk74 (by decide)]; rw [hk75]; decide) rfl ?_
                                    have h := q54 hk75
                                    refine ag_aload_n dX10_conclude_258 rfl (Or.inr ⟨_, rfl⟩) ?_
                                    refine ag_iload_n dX10_conclude_259 rfl ?_
                                    refine ag_bipush (v := 16) dX10_conclude_260 (by decide) ?_
                                    refine rr_call (as := [.int p0, .int 16]) (rest := []) ho dX10_conclude_262 me_X10_concludeTest mi_X10_concludeTest lk_10_262 rfl rfl (Nat.le_of_ble_eq_true rfl) ?_
                                    refine rM.mono h ?_
                                    rintro v S31 ⟨rfl, h⟩
                                    show rG _ _ _ _ _ _ [] _
                                    refine ag_goto (tgt := 340) dX10_conclude_265 rfl ?_
                                    exact ag_ret (v := none) dX10_conclude_340 rfl ⟨_, rfl, _, rfl, h⟩ rfl
                                  · by_cases hk76 : (S1.1 4 j3) = 97
                                    · refine ag_lookup (tgt := 221) (off := 210) dX10_conclude_11 (by decide) (by rw [lv_osw (k := 33) hk59 (by decide)]; rw [lv_osw (k := 35) hk60 (by decide)]; rw [lv_osw (k := 38) hk61 (by decide)]; rw [lv_osw (k := 43) hk62 (by decide)]; rw [lv_osw (k := 45) hk63 (by decide)]; rw [lv_osw (k := 46) hk64 (by decide)]; rw [lv_osw (k := 48) hk65 (by decide)]; rw [lv_osw (k := 58) hk66 (by decide)]; rw [lv_osw (k := 60) hk67 (by decide)]; rw [lv_osw (k := 63) hk68 (by decide)]; rw [lv_osw (k := 65) hk69 (by decide)]; rw [lv_osw (k := 66) hk70 (by decide)]; rw [lv_osw (k := 67) hk71 (by decide)]; rw [lv_osw (k := 68) hk72 (by decide)]; rw [lv_osw (k := 69) hk73 (by decide)]; rw [lv_osw (k := 78) hk74 (by decide)]; rw [lv_osw (k := 80) hk75 (by decide)]; rw [hk76]; decide) rfl ?_
                                      have h := q55 hk76
                                      refine ag_aload_n dX10_conclude_221 rfl (Or.inr ⟨_, rfl⟩) ?_
                                      refine ag_iload_n dX10_conclude_222 rfl ?_
                                      refine rr_call (as := [.int p0]) (rest := []) ho dX10_conclude_223 me_X10_concludeVariable mi_X10_concludeVariable lk_10_259 rfl rfl (Nat.le_of_ble_eq_true rfl) ?_
                                      refine rM.mono h ?_
                                      rintro v S33 ⟨rfl, h⟩
                                      show rG _ _ _ _ _ _ [] _
                                      refine ag_goto (tgt := 340) dX10_conclude_226 rfl ?_
                                      exact ag_ret (v := none) dX10_conclude_340 rfl ⟨_, rfl, _, rfl, h⟩ rfl
                                    · by_cases hk77 : (S1.1 4 j3) = 124
                                      · refine ag_lookup (tgt := 319) (off := 308) dX10_conclude_11 (by decide) (by rw [lv_osw (k := 33) hk59 (by decide)]; rw [lv_osw (k := 35) hk60 (by decide)]; rw [lv_osw (k := 38) hk61 (by decide)]; rw [lv_osw (k := 43) hk62 (by decide)]; rw [lv_osw (k := 45) hk63 (by decide)]; rw [lv_osw (k := 46) hk64 (by decide)]; rw [lv_osw (k := 48) hk65 (by decide)]; rw [lv_osw (k := 58) hk66 (by decide)]; rw [lv_osw (k := 60) hk67 (by decide)]; rw [lv_osw (k := 63) hk68 (by decide)]; rw [lv_osw (k := 65) hk69 (by decide)]; rw [lv_osw (k := 66) hk70 (by decide)]; rw [lv_osw (k := 67) hk71 (by decide)]; rw [lv_osw (k := 68) hk72 (by decide)]; rw [lv_osw (k := 69) hk73 (by decide)]; rw [lv_osw (k := 78) hk74 (by decide)]; rw [lv_osw (k := 80) hk75 (by decide)]; rw [lv_osw (k := 97) hk76 (by decide)]; rw [hk77]; decide) rfl ?_
                                        have h := q56 hk77
                                        refine ag_aload_n dX10_conclude_319 rfl (Or.inr ⟨_, rfl⟩) ?_
                                        refine ag_iload_n dX10_conclude_320 rfl ?_
                                        refine rr_call (as := [.int p0]) (rest := []) ho dX10_conclude_321 me_X10_concludeOr mi_X10_concludeOr lk_10_280 rfl rfl (Nat.le_of_ble_eq_true rfl) ?_
                                        refine rM.mono h ?_
                                        rintro v S35 ⟨rfl, h⟩
                                        show rG _ _ _ _ _ _ [] _
                                        refine ag_goto (tgt := 340) dX10_conclude_324 rfl ?_
                                        exact ag_ret (v := none) dX10_conclude_340 rfl ⟨_, rfl, _, rfl, h⟩ rfl
                                      · by_cases hk78 : (S1.1 4 j3) = 126
                                        · refine ag_lookup (tgt := 200) (off := 189) dX10_conclude_11 (by decide) (by rw [lv_osw (k := 33) hk59 (by decide)]; rw [lv_osw (k := 35) hk60 (by decide)]; rw [lv_osw (k := 38) hk61 (by decide)]; rw [lv_osw (k := 43) hk62 (by decide)]; rw [lv_osw (k := 45) hk63 (by decide)]; rw [lv_osw (k := 46) hk64 (by decide)]; rw [lv_osw (k := 48) hk65 (by decide)]; rw [lv_osw (k := 58) hk66 (by decide)]; rw [lv_osw (k := 60) hk67 (by decide)]; rw [lv_osw (k := 63) hk68 (by decide)]; rw [lv_osw (k := 65) hk69 (by decide)]; rw [lv_osw (k := 66) hk70 (by decide)]; rw [lv_osw (k := 67) hk71 (by decide)]; rw [lv_osw (k := 68) hk72 (by decide)]; rw [lv_osw (k := 69) hk73 (by decide)]; rw [lv_osw (k := 78) hk74 (by decide)]; rw [lv_osw (k := 80) hk75 (by decide)]; rw [lv_osw (k := 97) hk76 (by decide)]; rw [lv_osw (k := 124) hk77 (by decide)]; rw [hk78]; decide) rfl ?_
                                          have h := q57 hk78
                                          refine ag_aload_n dX10_conclude_200 rfl (Or.inr ⟨_, rfl⟩) ?_
                                          refine ag_iload_n dX10_conclude_201 rfl ?_
                                          refine ag_iconst (v := 4) dX10_conclude_202 rfl ?_
                                          refine ag_iconst (v := (-1)) dX10_conclude_203 rfl ?_
                                          refine rr_call (as := [.int p0, .int 4, .int (-1)]) (rest := []) ho dX10_conclude_204 me_X10_finish mi_X10_finish lk_10_235 rfl rfl (Nat.le_of_ble_eq_true rfl) ?_
                                          refine rM.mono h ?_
                                          rintro v S37 ⟨rfl, h⟩
                                          show rG _ _ _ _ _ _ [] _
                                          refine ag_goto (tgt := 340) dX10_conclude_207 rfl ?_
                                          exact ag_ret (v := none) dX10_conclude_340 rfl ⟨_, rfl, _, rfl, h⟩ rfl
                                        · refine ag_lookup (tgt := 335) (off := 324) dX10_conclude_11 (by decide) (by rw [lv_osw (k := 33) hk59 (by decide)]; rw [lv_osw (k := 35) hk60 (by decide)]; rw [lv_osw (k := 38) hk61 (by decide)]; rw [lv_osw (k := 43) hk62 (by decide)]; rw [lv_osw (k := 45) hk63 (by decide)]; rw [lv_osw (k := 46) hk64 (by decide)]; rw [lv_osw (k := 48) hk65 (by decide)]; rw [lv_osw (k := 58) hk66 (by decide)]; rw [lv_osw (k := 60) hk67 (by decide)]; rw [lv_osw (k := 63) hk68 (by decide)]; rw [lv_osw (k := 65) hk69 (by decide)]; rw [lv_osw (k := 66) hk70 (by decide)]; rw [lv_osw (k := 67) hk71 (by decide)]; rw [lv_osw (k := 68) hk72 (by decide)]; rw [lv_osw (k := 69) hk73 (by decide)]; rw [lv_osw (k := 78) hk74 (by decide)]; rw [lv_osw (k := 80) hk75 (by decide)]; rw [lv_osw (k := 97) hk76 (by decide)]; rw [lv_osw (k := 124) hk77 (by decide)]; rw [lv_osw (k := 126) hk78 (by decide)]; rfl) rfl ?_
                                          have h := q58 ⟨hk59, hk60, hk61, hk62, hk63, hk64, hk65, hk66, hk67, hk68, hk69, hk70, hk71, hk72, hk73, hk74, hk75, hk76, hk77, hk78⟩
                                          refine ag_aload_n dX10_conclude_335 rfl (Or.inr ⟨_, rfl⟩) ?_
                                          refine ag_iload_n dX10_conclude_336 rfl ?_
                                          refine rr_call (as := [.int p0]) (rest := []) ho dX10_conclude_337 me_X10_concludeCall mi_X10_concludeCall lk_10_286 rfl rfl (Nat.le_of_ble_eq_true rfl) ?_
                                          refine rM.mono h ?_
                                          rintro v S39 ⟨rfl, h⟩
                                          show rG _ _ _ _ _ _ [] _
                                          exact ag_ret (v := none) dX10_conclude_340 rfl ⟨_, rfl, _, rfl, h⟩ rfl
theorem dX10_split_0 : decode cX10_split 0 = .ok (.aload_n 0, 1) := by decide +kernel
theorem dX10_split_1 : decode cX10_split 1 = .ok (.getfield 97, 3) := by decide +kernel
theorem dX10_split_4 : decode cX10_split 4 = .ok (.iconst 0, 1) := by decide +kernel
theorem dX10_split_5 : decode cX10_split 5 = .ok (.iload_n 1, 1) := by decide +kernel
theorem dX10_split_6 : decode cX10_split 6 = .ok (.bipush 27, 2) := by decide +kernel
theorem dX10_split_8 : decode cX10_split 8 = .ok (.invokestatic 289, 3) := by decide +kernel
theorem dX10_split_11 : decode cX10_split 11 = .ok (.aload_n 0, 1) := by decide +kernel
theorem dX10_split_12 : decode cX10_split 12 = .ok (.getfield 100, 3) := by decide +kernel
theorem dX10_split_15 : decode cX10_split 15 = .ok (.iconst 0, 1) := by decide +kernel
theorem dX10_split_16 : decode cX10_split 16 = .ok (.iload_n 1, 1) := by decide +kernel
theorem dX10_split_17 : decode cX10_split 17 = .ok (.iconst 4, 1) := by decide +kernel
theorem dX10_split_18 : decode cX10_split 18 = .ok (.invokestatic 289, 3) := by decide +kernel
theorem dX10_split_21 : decode cX10_split 21 = .ok (.return_, 1) := by decide +kernel
set_option maxRecDepth 20000 in
set_option maxHeartbeats 4000000 in
theorem w_X10_split {c : rX} {d : Nat} {S : rS} {K : Option Value → rS → Prop} (ho : rOK c) (p0 : Int32) (h : rM c d eX10_restrict [.ref (c.2.2.1 + (27 + 1)), .int 0, .int p0, .int 27] S (fun v S1 => v = none ∧ (rM c d eX10_restrict [.ref (c.2.2.1 + (28 + 1)), .int 0, .int p0, .int 4] S1 (fun v S3 => v = none ∧ (K none S3))))) : rM c (d + 1) eX10_split [.ref c.2.2.1, .int p0] S K := by
  refine rM.of (by decide) (Nat.le_of_ble_eq_true rfl) ?_
  show rG c eX10_split (d + 1) (rQ c K) 0 [some (.ref c.2.2.1), some (.int p0)] [] S
  refine ag_aload_n dX10_split_0 rfl (Or.inr ⟨_, rfl⟩) ?_
  refine rr_get (v := .ref (c.2.2.1 + (27 + 1))) ho dX10_split_1 fw_10_97 rfl ?_
  refine ag_iconst (v := 0) dX10_split_4 rfl ?_
  refine ag_iload_n dX10_split_5 rfl ?_
  refine ag_bipush (v := 27) dX10_split_6 (by decide) ?_
  refine rr_calls (as := [.ref (c.2.2.1 + (27 + 1)), .int 0, .int p0, .int 27]) (rest := []) dX10_split_8 me_X10_restrict ms_X10_restrict lk_10_289 rfl rfl (Nat.le_of_ble_eq_true rfl) ?_
  refine rM.mono h ?_
  rintro v S1 ⟨rfl, h⟩
  show rG _ _ _ _ _ _ [] _
  refine ag_aload_n dX10_split_11 rfl (Or.inr ⟨_, rfl⟩) ?_
  refine rr_get (v := .ref (c.2.2.1 + (28 + 1))) ho dX10_split_12 fw_10_100 rfl ?_
  refine ag_iconst (v := 0) dX10_split_15 rfl ?_
  refine ag_iload_n dX10_split_16 rfl ?_
  refine ag_iconst (v := 4) dX10_split_17 rfl ?_
  refine rr_calls (as := [.ref (c.2.2.1 + (28 + 1)), .int 0, .int p0, .int 4]) (rest := []) dX10_split_18 me_X10_restrict ms_X10_restrict lk_10_289 rfl rfl (Nat.le_of_ble_eq_true rfl) ?_
  refine rM.mono h ?_
  rintro v S3 ⟨rfl, h⟩
  show rG _ _ _ _ _ _ [] _
  exact ag_ret (v := none) dX10_split_21 rfl ⟨_, rfl, _, rfl, h⟩ rfl
theorem dX10_concludeVariable_0 : decode cX10_concludeVariable 0 = .ok (.aload_n 0, 1) := by decide +kernel
theorem dX10_concludeVariable_1 : decode cX10_concludeVariable 1 = .ok (.getfield 29, 3) := by decide +kernel
theorem dX10_concludeVariable_4 : decode cX10_concludeVariable 4 = .ok (.iload_n 1, 1) := by decide +kernel
theorem dX10_concludeVariable_5 : decode cX10_concludeVariable 5 = .ok (.iaload, 1) := by decide +kernel
theorem dX10_concludeVariable_6 : decode cX10_concludeVariable 6 = .ok (.istore_n 2, 1) := by decide +kernel
theorem dX10_concludeVariable_7 : decode cX10_concludeVariable 7 = .ok (.aload_n 0, 1) := by decide +kernel
theorem dX10_concludeVariable_8 : decode cX10_concludeVariable 8 = .ok (.getfield 85, 3) := by decide +kernel
theorem dX10_concludeVariable_11 : decode cX10_concludeVariable 11 = .ok (.iload_n 2, 1) := by decide +kernel
theorem dX10_concludeVariable_12 : decode cX10_concludeVariable 12 = .ok (.iaload, 1) := by decide +kernel
theorem dX10_concludeVariable_13 : decode cX10_concludeVariable 13 = .ok (.istore_n 3, 1) := by decide +kernel
theorem dX10_concludeVariable_14 : decode cX10_concludeVariable 14 = .ok (.aload_n 0, 1) := by decide +kernel
theorem dX10_concludeVariable_15 : decode cX10_concludeVariable 15 = .ok (.iload_n 3, 1) := by decide +kernel
theorem dX10_concludeVariable_16 : decode cX10_concludeVariable 16 = .ok (.invokevirtual 292, 3) := by decide +kernel
theorem dX10_concludeVariable_19 : decode cX10_concludeVariable 19 = .ok (.aload_n 0, 1) := by decide +kernel
theorem dX10_concludeVariable_20 : decode cX10_concludeVariable 20 = .ok (.getfield 88, 3) := by decide +kernel
theorem dX10_concludeVariable_23 : decode cX10_concludeVariable 23 = .ok (.iload_n 2, 1) := by decide +kernel
theorem dX10_concludeVariable_24 : decode cX10_concludeVariable 24 = .ok (.baload, 1) := by decide +kernel
theorem dX10_concludeVariable_25 : decode cX10_concludeVariable 25 = .ok (.ifCond .eq 33, 3) := by decide +kernel
theorem dX10_concludeVariable_28 : decode cX10_concludeVariable 28 = .ok (.aload_n 0, 1) := by decide +kernel
theorem dX10_concludeVariable_29 : decode cX10_concludeVariable 29 = .ok (.getfield 97, 3) := by decide +kernel
theorem dX10_concludeVariable_32 : decode cX10_concludeVariable 32 = .ok (.iconst 0, 1) := by decide +kernel
theorem dX10_concludeVariable_33 : decode cX10_concludeVariable 33 = .ok (.aload_n 0, 1) := by decide +kernel
theorem dX10_concludeVariable_34 : decode cX10_concludeVariable 34 = .ok (.getfield 91, 3) := by decide +kernel
theorem dX10_concludeVariable_37 : decode cX10_concludeVariable 37 = .ok (.iconst 5, 1) := by decide +kernel
theorem dX10_concludeVariable_38 : decode cX10_concludeVariable 38 = .ok (.iload_n 2, 1) := by decide +kernel
theorem dX10_concludeVariable_39 : decode cX10_concludeVariable 39 = .ok (.imul, 1) := by decide +kernel
theorem dX10_concludeVariable_40 : decode cX10_concludeVariable 40 = .ok (.invokestatic 295, 3) := by decide +kernel
theorem dX10_concludeVariable_43 : decode cX10_concludeVariable 43 = .ok (.aload_n 0, 1) := by decide +kernel
theorem dX10_concludeVariable_44 : decode cX10_concludeVariable 44 = .ok (.getfield 100, 3) := by decide +kernel
theorem dX10_concludeVariable_47 : decode cX10_concludeVariable 47 = .ok (.iconst 0, 1) := by decide +kernel
theorem dX10_concludeVariable_48 : decode cX10_concludeVariable 48 = .ok (.aload_n 0, 1) := by decide +kernel
theorem dX10_concludeVariable_49 : decode cX10_concludeVariable 49 = .ok (.getfield 94, 3) := by decide +kernel
theorem dX10_concludeVariable_52 : decode cX10_concludeVariable 52 = .ok (.iconst 5, 1) := by decide +kernel
theorem dX10_concludeVariable_53 : decode cX10_concludeVariable 53 = .ok (.iload_n 2, 1) := by decide +kernel
theorem dX10_concludeVariable_54 : decode cX10_concludeVariable 54 = .ok (.imul, 1) := by decide +kernel
theorem dX10_concludeVariable_55 : decode cX10_concludeVariable 55 = .ok (.invokestatic 295, 3) := by decide +kernel
theorem dX10_concludeVariable_58 : decode cX10_concludeVariable 58 = .ok (.aload_n 0, 1) := by decide +kernel
theorem dX10_concludeVariable_59 : decode cX10_concludeVariable 59 = .ok (.iload_n 1, 1) := by decide +kernel
theorem dX10_concludeVariable_60 : decode cX10_concludeVariable 60 = .ok (.aload_n 0, 1) := by decide +kernel
theorem dX10_concludeVariable_61 : decode cX10_concludeVariable 61 = .ok (.getfield 66, 3) := by decide +kernel
theorem dX10_concludeVariable_64 : decode cX10_concludeVariable 64 = .ok (.aload_n 0, 1) := by decide +kernel
theorem dX10_concludeVariable_65 : decode cX10_concludeVariable 65 = .ok (.iload_n 1, 1) := by decide +kernel
theorem dX10_concludeVariable_66 : decode cX10_concludeVariable 66 = .ok (.invokevirtual 219, 3) := by decide +kernel
theorem dX10_concludeVariable_69 : decode cX10_concludeVariable 69 = .ok (.iload_n 3, 1) := by decide +kernel
theorem dX10_concludeVariable_70 : decode cX10_concludeVariable 70 = .ok (.invokestatic 298, 3) := by decide +kernel
theorem dX10_concludeVariable_73 : decode cX10_concludeVariable 73 = .ok (.iload_n 3, 1) := by decide +kernel
theorem dX10_concludeVariable_74 : decode cX10_concludeVariable 74 = .ok (.invokevirtual 235, 3) := by decide +kernel
theorem dX10_concludeVariable_77 : decode cX10_concludeVariable 77 = .ok (.return_, 1) := by decide +kernel
set_option maxRecDepth 20000 in
set_option maxHeartbeats 4000000 in
theorem w_X10_concludeVariable {c : rX} {d : Nat} {S : rS} {K : Option Value → rS → Prop} (ho : rOK c) (p0 : Int32) (h : ∃ j1 : Nat, am_ix p0 j1 320 ∧ (∃ j3 : Nat, am_ix (S.1 8 j1) j3 8 ∧ (rM c d eX10_split (.ref c.2.2.1 :: [.int (S.1 32 j3)]) S (fun v S5 => v = none ∧ (∃ j7 : Nat, am_ix (S.1 8 j1) j7 8 ∧ (((S5.1 33 j7) = 0 → (rG c eX10_concludeVariable (d + 1) (rQ c K) 58 [some (.ref c.2.2.1), some (.int p0), none, some (.int (S.1 32 j3))] [] S5)) ∧ (¬ (S5.1 33 j7) = 0 → (rM c d eX10_both [.ref (c.2.2.1 + (27 + 1)), .int 0, .ref (c.2.2.1 + (25 + 1)), .int (5 * (S.1 8 j1))] S5 (fun v S10 => v = none ∧ (rM c d eX10_both [.ref (c.2.2.1 + (28 + 1)), .int 0, .ref (c.2.2.1 + (26 + 1)), .int (5 * (S.1 8 j1))] S10 (fun v S12 => v = none ∧ (rG c eX10_concludeVariable (d + 1) (rQ c K) 58 [some (.ref c.2.2.1), some (.int p0), none, some (.int (S.1 32 j3))] [] S12)))))))))))) : rM c (d + 1) eX10_concludeVariable [.ref c.2.2.1, .int p0] S K := by
  refine rM.of (by decide) (Nat.le_of_ble_eq_true rfl) ?_
  show rG c eX10_concludeVariable (d + 1) (rQ c K) 0 [some (.ref c.2.2.1), some (.int p0), none, none] [] S
  refine ag_aload_n dX10_concludeVariable_0 rfl (Or.inr ⟨_, rfl⟩) ?_
  refine rr_get (v := .ref (c.2.2.1 + (5 + 1))) ho dX10_concludeVariable_1 fw_10_29 rfl ?_
  refine ag_iload_n dX10_concludeVariable_4 rfl ?_
  obtain ⟨j1, hj2, h⟩ := h
  refine rr_il (v := S.1 8 j1) ho dX10_concludeVariable_5 (k := 5) (f := 8) rfl hj2 rfl ?_
  refine ag_istore_n (lv2 := [some (.ref c.2.2.1), some (.int p0), some (.int (S.1 8 j1)), none]) dX10_concludeVariable_6 (Nat.le_of_ble_eq_true rfl) rfl ?_
  refine ag_aload_n dX10_concludeVariable_7 rfl (Or.inr ⟨_, rfl⟩) ?_
  refine rr_get (v := .ref (c.2.2.1 + (23 + 1))) ho dX10_concludeVariable_8 fw_10_85 rfl ?_
  refine ag_iload_n dX10_concludeVariable_11 rfl ?_
  obtain ⟨j3, hj4, h⟩ := h
  refine rr_il (v := S.1 32 j3) ho dX10_concludeVariable_12 (k := 23) (f := 32) rfl hj4 rfl ?_
  refine ag_istore_n (lv2 := [some (.ref c.2.2.1), some (.int p0), some (.int (S.1 8 j1)), some (.int (S.1 32 j3))]) dX10_concludeVariable_13 (Nat.le_of_ble_eq_true rfl) rfl ?_
  refine ag_aload_n dX10_concludeVariable_14 rfl (Or.inr ⟨_, rfl⟩) ?_
  refine ag_iload_n dX10_concludeVariable_15 rfl ?_
  refine rr_call (as := [.int (S.1 32 j3)]) (rest := []) ho dX10_concludeVariable_16 me_X10_split mi_X10_split lk_10_292 rfl rfl (Nat.le_of_ble_eq_true rfl) ?_
  refine rM.mono h ?_
  rintro v S5 ⟨rfl, h⟩
  show rG _ _ _ _ _ _ [] _
  refine ag_aload_n dX10_concludeVariable_19 rfl (Or.inr ⟨_, rfl⟩) ?_
  refine rr_get (v := .ref (c.2.2.1 + (24 + 1))) ho dX10_concludeVariable_20 fw_10_88 rfl ?_
  refine ag_iload_n dX10_concludeVariable_23 rfl ?_
  obtain ⟨j7, hj8, h⟩ := h
  refine rr_zl (v := S5.1 33 j7) ho dX10_concludeVariable_24 (k := 24) (f := 33) rfl hj8 rfl ?_
  refine ag_if_eq (tgt := 58) dX10_concludeVariable_25 rfl (fun hc9 => ?_) (fun hc9 => ?_)
  · have h := h.1 hc9
    refine ag_drop 2 ?_
    exact h
  · have h := h.2 hc9
    refine ag_aload_n dX10_concludeVariable_28 rfl (Or.inr ⟨_, rfl⟩) ?_
    refine rr_get (v := .ref (c.2.2.1 + (27 + 1))) ho dX10_concludeVariable_29 fw_10_97 rfl ?_
    refine ag_iconst (v := 0) dX10_concludeVariable_32 rfl ?_
    refine ag_aload_n dX10_concludeVariable_33 rfl (Or.inr ⟨_, rfl⟩) ?_
    refine rr_get (v := .ref (c.2.2.1 + (25 + 1))) ho dX10_concludeVariable_34 fw_10_91 rfl ?_
    refine ag_iconst (v := 5) dX10_concludeVariable_37 rfl ?_
    refine ag_iload_n dX10_concludeVariable_38 rfl ?_
    refine ag_imul dX10_concludeVariable_39 rfl ?_
    refine rr_calls (as := [.ref (c.2.2.1 + (27 + 1)), .int 0, .ref (c.2.2.1 + (25 + 1)), .int (5 * (S.1 8 j1))]) (rest := []) dX10_concludeVariable_40 me_X10_both ms_X10_both lk_10_295 rfl rfl (Nat.le_of_ble_eq_true rfl) ?_
    refine rM.mono h ?_
    rintro v S10 ⟨rfl, h⟩
    show rG _ _ _ _ _ _ [] _
    refine ag_aload_n dX10_concludeVariable_43 rfl (Or.inr ⟨_, rfl⟩) ?_
    refine rr_get (v := .ref (c.2.2.1 + (28 + 1))) ho dX10_concludeVariable_44 fw_10_100 rfl ?_
    refine ag_iconst (v := 0) dX10_concludeVariable_47 rfl ?_
    refine ag_aload_n dX10_concludeVariable_48 rfl (Or.inr ⟨_, rfl⟩) ?_
    refine rr_get (v := .ref (c.2.2.1 + (26 + 1))) ho dX10_concludeVariable_49 fw_10_94 rfl ?_
    refine ag_iconst (v := 5) dX10_concludeVariable_52 rfl ?_
    refine ag_iload_n dX10_concludeVariable_53 rfl ?_
    refine ag_imul dX10_concludeVariable_54 rfl ?_
    refine rr_calls (as := [.ref (c.2.2.1 + (28 + 1)), .int 0, .ref (c.2.2.1 + (26 + 1)), .int (5 * (S.1 8 j1))]) (rest := []) dX10_concludeVariable_55 me_X10_both ms_X10_both lk_10_295 rfl rfl (Nat.le_of_ble_eq_true rfl) ?_
    refine rM.mono h ?_
    rintro v S12 ⟨rfl, h⟩
    show rG _ _ _ _ _ _ [] _
    refine ag_drop 2 ?_
    exact h
set_option maxRecDepth 20000 in
set_option maxHeartbeats 4000000 in
theorem w_X10_concludeVariable_58 {c : rX} {d : Nat} {S : rS} {K : Option Value → rS → Prop} (ho : rOK c) (v1 : Int32) (v3 : Int32) (h : rM c d eX10_five (.ref c.2.2.1 :: [.int v1]) S (fun v S1 => ∃ z2 : Int32, v = some (.int z2) ∧ (rM c d eX10_said [.ref (c.2.2.1 + (17 + 1)), .int z2, .int v3] S1 (fun v S3 => ∃ z4 : Int32, v = some (.int z4) ∧ (rM c d eX10_finish (.ref c.2.2.1 :: [.int v1, .int z4, .int v3]) S3 (fun v S5 => v = none ∧ (K none S5))))))) : rG c eX10_concludeVariable (d + 1) (rQ c K) 58 [some (.ref c.2.2.1), some (.int v1), none, some (.int v3)] [] S := by
  refine ag_aload_n dX10_concludeVariable_58 rfl (Or.inr ⟨_, rfl⟩) ?_
  refine ag_iload_n dX10_concludeVariable_59 rfl ?_
  refine ag_aload_n dX10_concludeVariable_60 rfl (Or.inr ⟨_, rfl⟩) ?_
  refine rr_get (v := .ref (c.2.2.1 + (17 + 1))) ho dX10_concludeVariable_61 fw_10_66 rfl ?_
  refine ag_aload_n dX10_concludeVariable_64 rfl (Or.inr ⟨_, rfl⟩) ?_
  refine ag_iload_n dX10_concludeVariable_65 rfl ?_
  refine rr_call (as := [.int v1]) (rest := [.ref (c.2.2.1 + (17 + 1)), .int v1, .ref c.2.2.1]) ho dX10_concludeVariable_66 me_X10_five mi_X10_five lk_10_219 rfl rfl (Nat.le_of_ble_eq_true rfl) ?_
  refine rM.mono h ?_
  rintro v S1 ⟨z2, rfl, h⟩
  show rG _ _ _ _ _ _ [.int z2, .ref (c.2.2.1 + (17 + 1)), .int v1, .ref c.2.2.1] _
  refine ag_iload_n dX10_concludeVariable_69 rfl ?_
  refine rr_calls (as := [.ref (c.2.2.1 + (17 + 1)), .int z2, .int v3]) (rest := [.int v1, .ref c.2.2.1]) dX10_concludeVariable_70 me_X10_said ms_X10_said lk_10_298 rfl rfl (Nat.le_of_ble_eq_true rfl) ?_
  refine rM.mono h ?_
  rintro v S3 ⟨z4, rfl, h⟩
  show rG _ _ _ _ _ _ [.int z4, .int v1, .ref c.2.2.1] _
  refine ag_iload_n dX10_concludeVariable_73 rfl ?_
  refine rr_call (as := [.int v1, .int z4, .int v3]) (rest := []) ho dX10_concludeVariable_74 me_X10_finish mi_X10_finish lk_10_235 rfl rfl (Nat.le_of_ble_eq_true rfl) ?_
  refine rM.mono h ?_
  rintro v S5 ⟨rfl, h⟩
  show rG _ _ _ _ _ _ [] _
  exact ag_ret (v := none) dX10_concludeVariable_77 rfl ⟨_, rfl, _, rfl, h⟩ rfl
theorem dX10_concludeTest_0 : decode cX10_concludeTest 0 = .ok (.aload_n 0, 1) := by decide +kernel
theorem dX10_concludeTest_1 : decode cX10_concludeTest 1 = .ok (.getfield 20, 3) := by decide +kernel
theorem dX10_concludeTest_4 : decode cX10_concludeTest 4 = .ok (.iload_n 1, 1) := by decide +kernel
theorem dX10_concludeTest_5 : decode cX10_concludeTest 5 = .ok (.iaload, 1) := by decide +kernel
theorem dX10_concludeTest_6 : decode cX10_concludeTest 6 = .ok (.istore_n 3, 1) := by decide +kernel
theorem dX10_concludeTest_7 : decode cX10_concludeTest 7 = .ok (.aload_n 0, 1) := by decide +kernel
theorem dX10_concludeTest_8 : decode cX10_concludeTest 8 = .ok (.iload_n 3, 1) := by decide +kernel
theorem dX10_concludeTest_9 : decode cX10_concludeTest 9 = .ok (.invokevirtual 246, 3) := by decide +kernel
theorem dX10_concludeTest_12 : decode cX10_concludeTest 12 = .ok (.iconst (-1), 1) := by decide +kernel
theorem dX10_concludeTest_13 : decode cX10_concludeTest 13 = .ok (.if_icmp .eq 34, 3) := by decide +kernel
theorem dX10_concludeTest_16 : decode cX10_concludeTest 16 = .ok (.aload_n 0, 1) := by decide +kernel
theorem dX10_concludeTest_17 : decode cX10_concludeTest 17 = .ok (.getfield 97, 3) := by decide +kernel
theorem dX10_concludeTest_20 : decode cX10_concludeTest 20 = .ok (.iconst 0, 1) := by decide +kernel
theorem dX10_concludeTest_21 : decode cX10_concludeTest 21 = .ok (.aload_n 0, 1) := by decide +kernel
theorem dX10_concludeTest_22 : decode cX10_concludeTest 22 = .ok (.iload_n 3, 1) := by decide +kernel
theorem dX10_concludeTest_23 : decode cX10_concludeTest 23 = .ok (.invokevirtual 246, 3) := by decide +kernel
theorem dX10_concludeTest_26 : decode cX10_concludeTest 26 = .ok (.iload_n 2, 1) := by decide +kernel
theorem dX10_concludeTest_27 : decode cX10_concludeTest 27 = .ok (.invokestatic 289, 3) := by decide +kernel
theorem dX10_concludeTest_30 : decode cX10_concludeTest 30 = .ok (.aload_n 0, 1) := by decide +kernel
theorem dX10_concludeTest_31 : decode cX10_concludeTest 31 = .ok (.getfield 100, 3) := by decide +kernel
theorem dX10_concludeTest_34 : decode cX10_concludeTest 34 = .ok (.iconst 0, 1) := by decide +kernel
theorem dX10_concludeTest_35 : decode cX10_concludeTest 35 = .ok (.aload_n 0, 1) := by decide +kernel
theorem dX10_concludeTest_36 : decode cX10_concludeTest 36 = .ok (.iload_n 3, 1) := by decide +kernel
theorem dX10_concludeTest_37 : decode cX10_concludeTest 37 = .ok (.invokevirtual 246, 3) := by decide +kernel
theorem dX10_concludeTest_40 : decode cX10_concludeTest 40 = .ok (.bipush 31, 2) := by decide +kernel
theorem dX10_concludeTest_42 : decode cX10_concludeTest 42 = .ok (.iload_n 2, 1) := by decide +kernel
theorem dX10_concludeTest_43 : decode cX10_concludeTest 43 = .ok (.isub, 1) := by decide +kernel
theorem dX10_concludeTest_44 : decode cX10_concludeTest 44 = .ok (.invokestatic 289, 3) := by decide +kernel
theorem dX10_concludeTest_47 : decode cX10_concludeTest 47 = .ok (.aload_n 0, 1) := by decide +kernel
theorem dX10_concludeTest_48 : decode cX10_concludeTest 48 = .ok (.iload_n 3, 1) := by decide +kernel
theorem dX10_concludeTest_49 : decode cX10_concludeTest 49 = .ok (.invokevirtual 249, 3) := by decide +kernel
theorem dX10_concludeTest_52 : decode cX10_concludeTest 52 = .ok (.istore 4, 2) := by decide +kernel
theorem dX10_concludeTest_54 : decode cX10_concludeTest 54 = .ok (.aload_n 0, 1) := by decide +kernel
theorem dX10_concludeTest_55 : decode cX10_concludeTest 55 = .ok (.iload_n 1, 1) := by decide +kernel
theorem dX10_concludeTest_56 : decode cX10_concludeTest 56 = .ok (.iload 4, 2) := by decide +kernel
theorem dX10_concludeTest_58 : decode cX10_concludeTest 58 = .ok (.ifCond .ne 7, 3) := by decide +kernel
theorem dX10_concludeTest_61 : decode cX10_concludeTest 61 = .ok (.iconst 0, 1) := by decide +kernel
theorem dX10_concludeTest_62 : decode cX10_concludeTest 62 = .ok (.goto 29, 3) := by decide +kernel
theorem dX10_concludeTest_65 : decode cX10_concludeTest 65 = .ok (.iload 4, 2) := by decide +kernel
theorem dX10_concludeTest_67 : decode cX10_concludeTest 67 = .ok (.iload_n 2, 1) := by decide +kernel
theorem dX10_concludeTest_68 : decode cX10_concludeTest 68 = .ok (.iconst (-1), 1) := by decide +kernel
theorem dX10_concludeTest_69 : decode cX10_concludeTest 69 = .ok (.ixor, 1) := by decide +kernel
theorem dX10_concludeTest_70 : decode cX10_concludeTest 70 = .ok (.iand, 1) := by decide +kernel
theorem dX10_concludeTest_71 : decode cX10_concludeTest 71 = .ok (.ifCond .ne 7, 3) := by decide +kernel
theorem dX10_concludeTest_74 : decode cX10_concludeTest 74 = .ok (.iconst 2, 1) := by decide +kernel
theorem dX10_concludeTest_75 : decode cX10_concludeTest 75 = .ok (.goto 16, 3) := by decide +kernel
theorem dX10_concludeTest_78 : decode cX10_concludeTest 78 = .ok (.iload 4, 2) := by decide +kernel
theorem dX10_concludeTest_80 : decode cX10_concludeTest 80 = .ok (.iload_n 2, 1) := by decide +kernel
theorem dX10_concludeTest_81 : decode cX10_concludeTest 81 = .ok (.iand, 1) := by decide +kernel
theorem dX10_concludeTest_82 : decode cX10_concludeTest 82 = .ok (.ifCond .ne 7, 3) := by decide +kernel
theorem dX10_concludeTest_85 : decode cX10_concludeTest 85 = .ok (.iconst 4, 1) := by decide +kernel
theorem dX10_concludeTest_86 : decode cX10_concludeTest 86 = .ok (.goto 5, 3) := by decide +kernel
theorem dX10_concludeTest_89 : decode cX10_concludeTest 89 = .ok (.bipush 6, 2) := by decide +kernel
theorem dX10_concludeTest_91 : decode cX10_concludeTest 91 = .ok (.iconst (-1), 1) := by decide +kernel
theorem dX10_concludeTest_92 : decode cX10_concludeTest 92 = .ok (.invokevirtual 235, 3) := by decide +kernel
theorem dX10_concludeTest_95 : decode cX10_concludeTest 95 = .ok (.return_, 1) := by decide +kernel
set_option maxRecDepth 20000 in
set_option maxHeartbeats 4000000 in
theorem w_X10_concludeTest {c : rX} {d : Nat} {S : rS} {K : Option Value → rS → Prop} (ho : rOK c) (p0 : Int32) (p1 : Int32) (h : ∃ j1 : Nat, am_ix p0 j1 320 ∧ (rM c d eX10_placeOf (.ref c.2.2.1 :: [.int (S.1 5 j1)]) S (fun v S3 => ∃ z4 : Int32, v = some (.int z4) ∧ ((z4 = (-1) → (rG c eX10_concludeTest (d + 1) (rQ c K) 47 [some (.ref c.2.2.1), some (.int p0), some (.int p1), some (.int (S.1 5 j1)), none] [] S3)) ∧ (¬ z4 = (-1) → (rM c d eX10_placeOf (.ref c.2.2.1 :: [.int (S.1 5 j1)]) S3 (fun v S6 => ∃ z7 : Int32, v = some (.int z7) ∧ (rM c d eX10_restrict [.ref (c.2.2.1 + (27 + 1)), .int 0, .int z7, .int p1] S6 (fun v S8 => v = none ∧ (rM c d eX10_placeOf (.ref c.2.2.1 :: [.int (S.1 5 j1)]) S8 (fun v S10 => ∃ z11 : Int32, v = some (.int z11) ∧ (rM c d eX10_restrict [.ref (c.2.2.1 + (28 + 1)), .int 0, .int z11, .int (31 - p1)] S10 (fun v S12 => v = none ∧ (rG c eX10_concludeTest (d + 1) (rQ c K) 47 [some (.ref c.2.2.1), some (.int p0), some (.int p1), some (.int (S.1 5 j1)), none] [] S12)))))))))))))) : rM c (d + 1) eX10_concludeTest [.ref c.2.2.1, .int p0, .int p1] S K := by
  refine rM.of (by decide) (Nat.le_of_ble_eq_true rfl) ?_
  show rG c eX10_concludeTest (d + 1) (rQ c K) 0 [some (.ref c.2.2.1), some (.int p0), some (.int p1), none, none] [] S
  refine ag_aload_n dX10_concludeTest_0 rfl (Or.inr ⟨_, rfl⟩) ?_
  refine rr_get (v := .ref (c.2.2.1 + (2 + 1))) ho dX10_concludeTest_1 fw_10_20 rfl ?_
  refine ag_iload_n dX10_concludeTest_4 rfl ?_
  obtain ⟨j1, hj2, h⟩ := h
  refine rr_il (v := S.1 5 j1) ho dX10_concludeTest_5 (k := 2) (f := 5) rfl hj2 rfl ?_
  refine ag_istore_n (lv2 := [some (.ref c.2.2.1), some (.int p0), some (.int p1), some (.int (S.1 5 j1)), none]) dX10_concludeTest_6 (Nat.le_of_ble_eq_true rfl) rfl ?_
  refine ag_aload_n dX10_concludeTest_7 rfl (Or.inr ⟨_, rfl⟩) ?_
  refine ag_iload_n dX10_concludeTest_8 rfl ?_
  refine rr_call (as := [.int (S.1 5 j1)]) (rest := []) ho dX10_concludeTest_9 me_X10_placeOf mi_X10_placeOf lk_10_246 rfl rfl (Nat.le_of_ble_eq_true rfl) ?_
  refine rM.mono h ?_
  rintro v S3 ⟨z4, rfl, h⟩
  show rG _ _ _ _ _ _ [.int z4] _
  refine ag_iconst (v := (-1)) dX10_concludeTest_12 rfl ?_
  refine ag_icmp_eq (tgt := 47) dX10_concludeTest_13 rfl (fun hc5 => ?_) (fun hc5 => ?_)
  · have h := h.1 hc5
    exact h
  · have h := h.2 hc5
    refine ag_aload_n dX10_concludeTest_16 rfl (Or.inr ⟨_, rfl⟩) ?_
    refine rr_get (v := .ref (c.2.2.1 + (27 + 1))) ho dX10_concludeTest_17 fw_10_97 rfl ?_
    refine ag_iconst (v := 0) dX10_concludeTest_20 rfl ?_
    refine ag_aload_n dX10_concludeTest_21 rfl (Or.inr ⟨_, rfl⟩) ?_
    refine ag_iload_n dX10_concludeTest_22 rfl ?_
    refine rr_call (as := [.int (S.1 5 j1)]) (rest := [.int 0, .ref (c.2.2.1 + (27 + 1))]) ho dX10_concludeTest_23 me_X10_placeOf mi_X10_placeOf lk_10_246 rfl rfl (Nat.le_of_ble_eq_true rfl) ?_
    refine rM.mono h ?_
    rintro v S6 ⟨z7, rfl, h⟩
    show rG _ _ _ _ _ _ [.int z7, .int 0, .ref (c.2.2.1 + (27 + 1))] _
    refine ag_iload_n dX10_concludeTest_26 rfl ?_
    refine rr_calls (as := [.ref (c.2.2.1 + (27 + 1)), .int 0, .int z7, .int p1]) (rest := []) dX10_concludeTest_27 me_X10_restrict ms_X10_restrict lk_10_289 rfl rfl (Nat.le_of_ble_eq_true rfl) ?_
    refine rM.mono h ?_
    rintro v S8 ⟨rfl, h⟩
    show rG _ _ _ _ _ _ [] _
    refine ag_aload_n dX10_concludeTest_30 rfl (Or.inr ⟨_, rfl⟩) ?_
    refine rr_get (v := .ref (c.2.2.1 + (28 + 1))) ho dX10_concludeTest_31 fw_10_100 rfl ?_
    refine ag_iconst (v := 0) dX10_concludeTest_34 rfl ?_
    refine ag_aload_n dX10_concludeTest_35 rfl (Or.inr ⟨_, rfl⟩) ?_
    refine ag_iload_n dX10_concludeTest_36 rfl ?_
    refine rr_call (as := [.int (S.1 5 j1)]) (rest := [.int 0, .ref (c.2.2.1 + (28 + 1))]) ho dX10_concludeTest_37 me_X10_placeOf mi_X10_placeOf lk_10_246 rfl rfl (Nat.le_of_ble_eq_true rfl) ?_
    refine rM.mono h ?_
    rintro v S10 ⟨z11, rfl, h⟩
    show rG _ _ _ _ _ _ [.int z11, .int 0, .ref (c.2.2.1 + (28 + 1))] _
    refine ag_bipush (v := 31) dX10_concludeTest_40 (by decide) ?_
    refine ag_iload_n dX10_concludeTest_42 rfl ?_
    refine ag_isub dX10_concludeTest_43 rfl ?_
    refine rr_calls (as := [.ref (c.2.2.1 + (28 + 1)), .int 0, .int z11, .int (31 - p1)]) (rest := []) dX10_concludeTest_44 me_X10_restrict ms_X10_restrict lk_10_289 rfl rfl (Nat.le_of_ble_eq_true rfl) ?_
    refine rM.mono h ?_
    rintro v S12 ⟨rfl, h⟩
    show rG _ _ _ _ _ _ [] _
    exact h
set_option maxRecDepth 20000 in
set_option maxHeartbeats 4000000 in
theorem w_X10_concludeTest_47 {c : rX} {d : Nat} {S : rS} {K : Option Value → rS → Prop} (ho : rOK c) (v1 : Int32) (v2 : Int32) (v3 : Int32) (h : rM c d eX10_typeOf (.ref c.2.2.1 :: [.int v3]) S (fun v S1 => ∃ z2 : Int32, v = some (.int z2) ∧ ((¬ z2 = 0 → ((¬ (z2 &&& (v2 ^^^ (-1))) = 0 → ((¬ (z2 &&& v2) = 0 → (rM c d eX10_finish (.ref c.2.2.1 :: [.int v1, .int 6, .int (-1)]) S1 (fun v S6 => v = none ∧ (K none S6)))) ∧ ((z2 &&& v2) = 0 → (rM c d eX10_finish (.ref c.2.2.1 :: [.int v1, .int 4, .int (-1)]) S1 (fun v S8 => v = none ∧ (K none S8)))))) ∧ ((z2 &&& (v2 ^^^ (-1))) = 0 → (rM c d eX10_finish (.ref c.2.2.1 :: [.int v1, .int 2, .int (-1)]) S1 (fun v S10 => v = none ∧ (K none S10)))))) ∧ (z2 = 0 → (rM c d eX10_finish (.ref c.2.2.1 :: [.int v1, .int 0, .int (-1)]) S1 (fun v S12 => v = none ∧ (K none S12))))))) : rG c eX10_concludeTest (d + 1) (rQ c K) 47 [some (.ref c.2.2.1), some (.int v1), some (.int v2), some (.int v3), none] [] S := by
  refine ag_aload_n dX10_concludeTest_47 rfl (Or.inr ⟨_, rfl⟩) ?_
  refine ag_iload_n dX10_concludeTest_48 rfl ?_
  refine rr_call (as := [.int v3]) (rest := []) ho dX10_concludeTest_49 me_X10_typeOf mi_X10_typeOf lk_10_249 rfl rfl (Nat.le_of_ble_eq_true rfl) ?_
  refine rM.mono h ?_
  rintro v S1 ⟨z2, rfl, h⟩
  show rG _ _ _ _ _ _ [.int z2] _
  refine ag_istore (lv2 := [some (.ref c.2.2.1), some (.int v1), some (.int v2), some (.int v3), some (.int z2)]) dX10_concludeTest_52 (Nat.le_of_ble_eq_true rfl) rfl ?_
  refine ag_aload_n dX10_concludeTest_54 rfl (Or.inr ⟨_, rfl⟩) ?_
  refine ag_iload_n dX10_concludeTest_55 rfl ?_
  refine ag_iload dX10_concludeTest_56 rfl ?_
  refine ag_if_ne (tgt := 65) dX10_concludeTest_58 rfl (fun hc3 => ?_) (fun hc3 => ?_)
  · have h := h.1 hc3
    refine ag_iload dX10_concludeTest_65 rfl ?_
    refine ag_iload_n dX10_concludeTest_67 rfl ?_
    refine ag_iconst (v := (-1)) dX10_concludeTest_68 rfl ?_
    refine ag_ixor dX10_concludeTest_69 rfl ?_
    refine ag_iand dX10_concludeTest_70 rfl ?_
    refine ag_if_ne (tgt := 78) dX10_concludeTest_71 rfl (fun hc4 => ?_) (fun hc4 => ?_)
    · have h := h.1 hc4
      refine ag_iload dX10_concludeTest_78 rfl ?_
      refine ag_iload_n dX10_concludeTest_80 rfl ?_
      refine ag_iand dX10_concludeTest_81 rfl ?_
      refine ag_if_ne (tgt := 89) dX10_concludeTest_82 rfl (fun hc5 => ?_) (fun hc5 => ?_)
      · have h := h.1 hc5
        refine ag_bipush (v := 6) dX10_concludeTest_89 (by decide) ?_
        refine ag_iconst (v := (-1)) dX10_concludeTest_91 rfl ?_
        refine rr_call (as := [.int v1, .int 6, .int (-1)]) (rest := []) ho dX10_concludeTest_92 me_X10_finish mi_X10_finish lk_10_235 rfl rfl (Nat.le_of_ble_eq_true rfl) ?_
        refine rM.mono h ?_
        rintro v S6 ⟨rfl, h⟩
        show rG _ _ _ _ _ _ [] _
        exact ag_ret (v := none) dX10_concludeTest_95 rfl ⟨_, rfl, _, rfl, h⟩ rfl
      · have h := h.2 hc5
        refine ag_iconst (v := 4) dX10_concludeTest_85 rfl ?_
        refine ag_goto (tgt := 91) dX10_concludeTest_86 rfl ?_
        refine ag_iconst (v := (-1)) dX10_concludeTest_91 rfl ?_
        refine rr_call (as := [.int v1, .int 4, .int (-1)]) (rest := []) ho dX10_concludeTest_92 me_X10_finish mi_X10_finish lk_10_235 rfl rfl (Nat.le_of_ble_eq_true rfl) ?_
        refine rM.mono h ?_
        rintro v S8 ⟨rfl, h⟩
        show rG _ _ _ _ _ _ [] _
        exact ag_ret (v := none) dX10_concludeTest_95 rfl ⟨_, rfl, _, rfl, h⟩ rfl
    · have h := h.2 hc4
      refine ag_iconst (v := 2) dX10_concludeTest_74 rfl ?_
      refine ag_goto (tgt := 91) dX10_concludeTest_75 rfl ?_
      refine ag_iconst (v := (-1)) dX10_concludeTest_91 rfl ?_
      refine rr_call (as := [.int v1, .int 2, .int (-1)]) (rest := []) ho dX10_concludeTest_92 me_X10_finish mi_X10_finish lk_10_235 rfl rfl (Nat.le_of_ble_eq_true rfl) ?_
      refine rM.mono h ?_
      rintro v S10 ⟨rfl, h⟩
      show rG _ _ _ _ _ _ [] _
      exact ag_ret (v := none) dX10_concludeTest_95 rfl ⟨_, rfl, _, rfl, h⟩ rfl
  · have h := h.2 hc3
    refine ag_iconst (v := 0) dX10_concludeTest_61 rfl ?_
    refine ag_goto (tgt := 91) dX10_concludeTest_62 rfl ?_
    refine ag_iconst (v := (-1)) dX10_concludeTest_91 rfl ?_
    refine rr_call (as := [.int v1, .int 0, .int (-1)]) (rest := []) ho dX10_concludeTest_92 me_X10_finish mi_X10_finish lk_10_235 rfl rfl (Nat.le_of_ble_eq_true rfl) ?_
    refine rM.mono h ?_
    rintro v S12 ⟨rfl, h⟩
    show rG _ _ _ _ _ _ [] _
    exact ag_ret (v := none) dX10_concludeTest_95 rfl ⟨_, rfl, _, rfl, h⟩ rfl
theorem dX10_concludeNot_0 : decode cX10_concludeNot 0 = .ok (.aload_n 0, 1) := by decide +kernel
theorem dX10_concludeNot_1 : decode cX10_concludeNot 1 = .ok (.aload_n 0, 1) := by decide +kernel
theorem dX10_concludeNot_2 : decode cX10_concludeNot 2 = .ok (.getfield 20, 3) := by decide +kernel
theorem dX10_concludeNot_5 : decode cX10_concludeNot 5 = .ok (.iload_n 1, 1) := by decide +kernel
theorem dX10_concludeNot_6 : decode cX10_concludeNot 6 = .ok (.iaload, 1) := by decide +kernel
theorem dX10_concludeNot_7 : decode cX10_concludeNot 7 = .ok (.invokevirtual 219, 3) := by decide +kernel
theorem dX10_concludeNot_10 : decode cX10_concludeNot 10 = .ok (.istore_n 2, 1) := by decide +kernel
theorem dX10_concludeNot_11 : decode cX10_concludeNot 11 = .ok (.aload_n 0, 1) := by decide +kernel
theorem dX10_concludeNot_12 : decode cX10_concludeNot 12 = .ok (.getfield 73, 3) := by decide +kernel
theorem dX10_concludeNot_15 : decode cX10_concludeNot 15 = .ok (.iload_n 2, 1) := by decide +kernel
theorem dX10_concludeNot_16 : decode cX10_concludeNot 16 = .ok (.aload_n 0, 1) := by decide +kernel
theorem dX10_concludeNot_17 : decode cX10_concludeNot 17 = .ok (.getfield 97, 3) := by decide +kernel
theorem dX10_concludeNot_20 : decode cX10_concludeNot 20 = .ok (.iconst 0, 1) := by decide +kernel
theorem dX10_concludeNot_21 : decode cX10_concludeNot 21 = .ok (.invokestatic 222, 3) := by decide +kernel
theorem dX10_concludeNot_24 : decode cX10_concludeNot 24 = .ok (.aload_n 0, 1) := by decide +kernel
theorem dX10_concludeNot_25 : decode cX10_concludeNot 25 = .ok (.getfield 70, 3) := by decide +kernel
theorem dX10_concludeNot_28 : decode cX10_concludeNot 28 = .ok (.iload_n 2, 1) := by decide +kernel
theorem dX10_concludeNot_29 : decode cX10_concludeNot 29 = .ok (.aload_n 0, 1) := by decide +kernel
theorem dX10_concludeNot_30 : decode cX10_concludeNot 30 = .ok (.getfield 100, 3) := by decide +kernel
theorem dX10_concludeNot_33 : decode cX10_concludeNot 33 = .ok (.iconst 0, 1) := by decide +kernel
theorem dX10_concludeNot_34 : decode cX10_concludeNot 34 = .ok (.invokestatic 222, 3) := by decide +kernel
theorem dX10_concludeNot_37 : decode cX10_concludeNot 37 = .ok (.aload_n 0, 1) := by decide +kernel
theorem dX10_concludeNot_38 : decode cX10_concludeNot 38 = .ok (.iload_n 1, 1) := by decide +kernel
theorem dX10_concludeNot_39 : decode cX10_concludeNot 39 = .ok (.aload_n 0, 1) := by decide +kernel
theorem dX10_concludeNot_40 : decode cX10_concludeNot 40 = .ok (.getfield 73, 3) := by decide +kernel
theorem dX10_concludeNot_43 : decode cX10_concludeNot 43 = .ok (.iload_n 2, 1) := by decide +kernel
theorem dX10_concludeNot_44 : decode cX10_concludeNot 44 = .ok (.invokestatic 211, 3) := by decide +kernel
theorem dX10_concludeNot_47 : decode cX10_concludeNot 47 = .ok (.ifCond .eq 7, 3) := by decide +kernel
theorem dX10_concludeNot_50 : decode cX10_concludeNot 50 = .ok (.iconst 0, 1) := by decide +kernel
theorem dX10_concludeNot_51 : decode cX10_concludeNot 51 = .ok (.goto 4, 3) := by decide +kernel
theorem dX10_concludeNot_54 : decode cX10_concludeNot 54 = .ok (.iconst 2, 1) := by decide +kernel
theorem dX10_concludeNot_55 : decode cX10_concludeNot 55 = .ok (.aload_n 0, 1) := by decide +kernel
theorem dX10_concludeNot_56 : decode cX10_concludeNot 56 = .ok (.getfield 70, 3) := by decide +kernel
theorem dX10_concludeNot_59 : decode cX10_concludeNot 59 = .ok (.iload_n 2, 1) := by decide +kernel
theorem dX10_concludeNot_60 : decode cX10_concludeNot 60 = .ok (.invokestatic 211, 3) := by decide +kernel
theorem dX10_concludeNot_63 : decode cX10_concludeNot 63 = .ok (.ifCond .eq 7, 3) := by decide +kernel
theorem dX10_concludeNot_66 : decode cX10_concludeNot 66 = .ok (.iconst 0, 1) := by decide +kernel
theorem dX10_concludeNot_67 : decode cX10_concludeNot 67 = .ok (.goto 4, 3) := by decide +kernel
theorem dX10_concludeNot_70 : decode cX10_concludeNot 70 = .ok (.iconst 4, 1) := by decide +kernel
theorem dX10_concludeNot_71 : decode cX10_concludeNot 71 = .ok (.ior, 1) := by decide +kernel
theorem dX10_concludeNot_72 : decode cX10_concludeNot 72 = .ok (.iconst (-1), 1) := by decide +kernel
theorem dX10_concludeNot_73 : decode cX10_concludeNot 73 = .ok (.invokevirtual 235, 3) := by decide +kernel
theorem dX10_concludeNot_76 : decode cX10_concludeNot 76 = .ok (.return_, 1) := by decide +kernel
set_option maxRecDepth 20000 in
set_option maxHeartbeats 4000000 in
theorem w_X10_concludeNot {c : rX} {d : Nat} {S : rS} {K : Option Value → rS → Prop} (ho : rOK c) (p0 : Int32) (h : ∃ j1 : Nat, am_ix p0 j1 320 ∧ (rM c d eX10_five (.ref c.2.2.1 :: [.int (S.1 5 j1)]) S (fun v S3 => ∃ z4 : Int32, v = some (.int z4) ∧ (rM c d eX10_copy [.ref (c.2.2.1 + (19 + 1)), .int z4, .ref (c.2.2.1 + (27 + 1)), .int 0] S3 (fun v S5 => v = none ∧ (rM c d eX10_copy [.ref (c.2.2.1 + (18 + 1)), .int z4, .ref (c.2.2.1 + (28 + 1)), .int 0] S5 (fun v S7 => v = none ∧ (rM c d eX10_isImpossible [.ref (c.2.2.1 + (19 + 1)), .int z4] S7 (fun v S9 => ∃ z10 : Int32, v = some (.int z10) ∧ ((z10 = 0 → (rG c eX10_concludeNot (d + 1) (rQ c K) 55 [some (.ref c.2.2.1), none, some (.int z4)] [.int 2, .int p0, .ref c.2.2.1] S9)) ∧ (¬ z10 = 0 → (rG c eX10_concludeNot (d + 1) (rQ c K) 55 [some (.ref c.2.2.1), none, some (.int z4)] [.int 0, .int p0, .ref c.2.2.1] S9)))))))))))) : rM c (d + 1) eX10_concludeNot [.ref c.2.2.1, .int p0] S K := by
  refine rM.of (by decide) (Nat.le_of_ble_eq_true rfl) ?_
  show rG c eX10_concludeNot (d + 1) (rQ c K) 0 [some (.ref c.2.2.1), some (.int p0), none] [] S
  refine ag_aload_n dX10_concludeNot_0 rfl (Or.inr ⟨_, rfl⟩) ?_
  refine ag_aload_n dX10_concludeNot_1 rfl (Or.inr ⟨_, rfl⟩) ?_
  refine rr_get (v := .ref (c.2.2.1 + (2 + 1))) ho dX10_concludeNot_2 fw_10_20 rfl ?_
  refine ag_iload_n dX10_concludeNot_5 rfl ?_
  obtain ⟨j1, hj2, h⟩ := h
  refine rr_il (v := S.1 5 j1) ho dX10_concludeNot_6 (k := 2) (f := 5) rfl hj2 rfl ?_
  refine rr_call (as := [.int (S.1 5 j1)]) (rest := []) ho dX10_concludeNot_7 me_X10_five mi_X10_five lk_10_219 rfl rfl (Nat.le_of_ble_eq_true rfl) ?_
  refine rM.mono h ?_
  rintro v S3 ⟨z4, rfl, h⟩
  show rG _ _ _ _ _ _ [.int z4] _
  refine ag_istore_n (lv2 := [some (.ref c.2.2.1), some (.int p0), some (.int z4)]) dX10_concludeNot_10 (Nat.le_of_ble_eq_true rfl) rfl ?_
  refine ag_aload_n dX10_concludeNot_11 rfl (Or.inr ⟨_, rfl⟩) ?_
  refine rr_get (v := .ref (c.2.2.1 + (19 + 1))) ho dX10_concludeNot_12 fw_10_73 rfl ?_
  refine ag_iload_n dX10_concludeNot_15 rfl ?_
  refine ag_aload_n dX10_concludeNot_16 rfl (Or.inr ⟨_, rfl⟩) ?_
  refine rr_get (v := .ref (c.2.2.1 + (27 + 1))) ho dX10_concludeNot_17 fw_10_97 rfl ?_
  refine ag_iconst (v := 0) dX10_concludeNot_20 rfl ?_
  refine rr_calls (as := [.ref (c.2.2.1 + (19 + 1)), .int z4, .ref (c.2.2.1 + (27 + 1)), .int 0]) (rest := []) dX10_concludeNot_21 me_X10_copy ms_X10_copy lk_10_222 rfl rfl (Nat.le_of_ble_eq_true rfl) ?_
  refine rM.mono h ?_
  rintro v S5 ⟨rfl, h⟩
  show rG _ _ _ _ _ _ [] _
  refine ag_aload_n dX10_concludeNot_24 rfl (Or.inr ⟨_, rfl⟩) ?_
  refine rr_get (v := .ref (c.2.2.1 + (18 + 1))) ho dX10_concludeNot_25 fw_10_70 rfl ?_
  refine ag_iload_n dX10_concludeNot_28 rfl ?_
  refine ag_aload_n dX10_concludeNot_29 rfl (Or.inr ⟨_, rfl⟩) ?_
  refine rr_get (v := .ref (c.2.2.1 + (28 + 1))) ho dX10_concludeNot_30 fw_10_100 rfl ?_
  refine ag_iconst (v := 0) dX10_concludeNot_33 rfl ?_
  refine rr_calls (as := [.ref (c.2.2.1 + (18 + 1)), .int z4, .ref (c.2.2.1 + (28 + 1)), .int 0]) (rest := []) dX10_concludeNot_34 me_X10_copy ms_X10_copy lk_10_222 rfl rfl (Nat.le_of_ble_eq_true rfl) ?_
  refine rM.mono h ?_
  rintro v S7 ⟨rfl, h⟩
  show rG _ _ _ _ _ _ [] _
  refine ag_aload_n dX10_concludeNot_37 rfl (Or.inr ⟨_, rfl⟩) ?_
  refine ag_iload_n dX10_concludeNot_38 rfl ?_
  refine ag_aload_n dX10_concludeNot_39 rfl (Or.inr ⟨_, rfl⟩) ?_
  refine rr_get (v := .ref (c.2.2.1 + (19 + 1))) ho dX10_concludeNot_40 fw_10_73 rfl ?_
  refine ag_iload_n dX10_concludeNot_43 rfl ?_
  refine rr_calls (as := [.ref (c.2.2.1 + (19 + 1)), .int z4]) (rest := [.int p0, .ref c.2.2.1]) dX10_concludeNot_44 me_X10_isImpossible ms_X10_isImpossible lk_10_211 rfl rfl (Nat.le_of_ble_eq_true rfl) ?_
  refine rM.mono h ?_
  rintro v S9 ⟨z10, rfl, h⟩
  show rG _ _ _ _ _ _ [.int z10, .int p0, .ref c.2.2.1] _
  refine ag_if_eq (tgt := 54) dX10_concludeNot_47 rfl (fun hc11 => ?_) (fun hc11 => ?_)
  · have h := h.1 hc11
    refine ag_iconst (v := 2) dX10_concludeNot_54 rfl ?_
    refine ag_drop 1 ?_
    exact h
  · have h := h.2 hc11
    refine ag_iconst (v := 0) dX10_concludeNot_50 rfl ?_
    refine ag_goto (tgt := 55) dX10_concludeNot_51 rfl ?_
    refine ag_drop 1 ?_
    exact h
set_option maxRecDepth 20000 in
set_option maxHeartbeats 4000000 in
theorem w_X10_concludeNot_55 {c : rX} {d : Nat} {S : rS} {K : Option Value → rS → Prop} (ho : rOK c) (v2 : Int32) (s0 : Int32) (s1 : Int32) (h : rM c d eX10_isImpossible [.ref (c.2.2.1 + (18 + 1)), .int v2] S (fun v S1 => ∃ z2 : Int32, v = some (.int z2) ∧ ((z2 = 0 → (rM c d eX10_finish (.ref c.2.2.1 :: [.int s1, .int (s0 ||| 4), .int (-1)]) S1 (fun v S4 => v = none ∧ (K none S4)))) ∧ (¬ z2 = 0 → (rM c d eX10_finish (.ref c.2.2.1 :: [.int s1, .int (s0 ||| 0), .int (-1)]) S1 (fun v S6 => v = none ∧ (K none S6))))))) : rG c eX10_concludeNot (d + 1) (rQ c K) 55 [some (.ref c.2.2.1), none, some (.int v2)] [.int s0, .int s1, .ref c.2.2.1] S := by
  refine ag_aload_n dX10_concludeNot_55 rfl (Or.inr ⟨_, rfl⟩) ?_
  refine rr_get (v := .ref (c.2.2.1 + (18 + 1))) ho dX10_concludeNot_56 fw_10_70 rfl ?_
  refine ag_iload_n dX10_concludeNot_59 rfl ?_
  refine rr_calls (as := [.ref (c.2.2.1 + (18 + 1)), .int v2]) (rest := [.int s0, .int s1, .ref c.2.2.1]) dX10_concludeNot_60 me_X10_isImpossible ms_X10_isImpossible lk_10_211 rfl rfl (Nat.le_of_ble_eq_true rfl) ?_
  refine rM.mono h ?_
  rintro v S1 ⟨z2, rfl, h⟩
  show rG _ _ _ _ _ _ [.int z2, .int s0, .int s1, .ref c.2.2.1] _
  refine ag_if_eq (tgt := 70) dX10_concludeNot_63 rfl (fun hc3 => ?_) (fun hc3 => ?_)
  · have h := h.1 hc3
    refine ag_iconst (v := 4) dX10_concludeNot_70 rfl ?_
    refine ag_ior dX10_concludeNot_71 rfl ?_
    refine ag_iconst (v := (-1)) dX10_concludeNot_72 rfl ?_
    refine rr_call (as := [.int s1, .int (s0 ||| 4), .int (-1)]) (rest := []) ho dX10_concludeNot_73 me_X10_finish mi_X10_finish lk_10_235 rfl rfl (Nat.le_of_ble_eq_true rfl) ?_
    refine rM.mono h ?_
    rintro v S4 ⟨rfl, h⟩
    show rG _ _ _ _ _ _ [] _
    exact ag_ret (v := none) dX10_concludeNot_76 rfl ⟨_, rfl, _, rfl, h⟩ rfl
  · have h := h.2 hc3
    refine ag_iconst (v := 0) dX10_concludeNot_66 rfl ?_
    refine ag_goto (tgt := 71) dX10_concludeNot_67 rfl ?_
    refine ag_ior dX10_concludeNot_71 rfl ?_
    refine ag_iconst (v := (-1)) dX10_concludeNot_72 rfl ?_
    refine rr_call (as := [.int s1, .int (s0 ||| 0), .int (-1)]) (rest := []) ho dX10_concludeNot_73 me_X10_finish mi_X10_finish lk_10_235 rfl rfl (Nat.le_of_ble_eq_true rfl) ?_
    refine rM.mono h ?_
    rintro v S6 ⟨rfl, h⟩
    show rG _ _ _ _ _ _ [] _
    exact ag_ret (v := none) dX10_concludeNot_76 rfl ⟨_, rfl, _, rfl, h⟩ rfl
theorem dX10_concludeHalf_0 : decode cX10_concludeHalf 0 = .ok (.aload_n 0, 1) := by decide +kernel
theorem dX10_concludeHalf_1 : decode cX10_concludeHalf 1 = .ok (.getfield 20, 3) := by decide +kernel
theorem dX10_concludeHalf_4 : decode cX10_concludeHalf 4 = .ok (.iload_n 1, 1) := by decide +kernel
theorem dX10_concludeHalf_5 : decode cX10_concludeHalf 5 = .ok (.iaload, 1) := by decide +kernel
theorem dX10_concludeHalf_6 : decode cX10_concludeHalf 6 = .ok (.istore_n 2, 1) := by decide +kernel
theorem dX10_concludeHalf_7 : decode cX10_concludeHalf 7 = .ok (.aload_n 0, 1) := by decide +kernel
theorem dX10_concludeHalf_8 : decode cX10_concludeHalf 8 = .ok (.iload_n 2, 1) := by decide +kernel
theorem dX10_concludeHalf_9 : decode cX10_concludeHalf 9 = .ok (.invokevirtual 249, 3) := by decide +kernel
theorem dX10_concludeHalf_12 : decode cX10_concludeHalf 12 = .ok (.bipush (-17), 2) := by decide +kernel
theorem dX10_concludeHalf_14 : decode cX10_concludeHalf 14 = .ok (.iand, 1) := by decide +kernel
theorem dX10_concludeHalf_15 : decode cX10_concludeHalf 15 = .ok (.ifCond .eq 9, 3) := by decide +kernel
theorem dX10_concludeHalf_18 : decode cX10_concludeHalf 18 = .ok (.aload_n 0, 1) := by decide +kernel
theorem dX10_concludeHalf_19 : decode cX10_concludeHalf 19 = .ok (.iload_n 1, 1) := by decide +kernel
theorem dX10_concludeHalf_20 : decode cX10_concludeHalf 20 = .ok (.invokevirtual 302, 3) := by decide +kernel
theorem dX10_concludeHalf_23 : decode cX10_concludeHalf 23 = .ok (.return_, 1) := by decide +kernel
theorem dX10_concludeHalf_24 : decode cX10_concludeHalf 24 = .ok (.aload_n 0, 1) := by decide +kernel
theorem dX10_concludeHalf_25 : decode cX10_concludeHalf 25 = .ok (.iload_n 2, 1) := by decide +kernel
theorem dX10_concludeHalf_26 : decode cX10_concludeHalf 26 = .ok (.invokevirtual 246, 3) := by decide +kernel
theorem dX10_concludeHalf_29 : decode cX10_concludeHalf 29 = .ok (.aload_n 0, 1) := by decide +kernel
theorem dX10_concludeHalf_30 : decode cX10_concludeHalf 30 = .ok (.getfield 17, 3) := by decide +kernel
theorem dX10_concludeHalf_33 : decode cX10_concludeHalf 33 = .ok (.iload_n 1, 1) := by decide +kernel
theorem dX10_concludeHalf_34 : decode cX10_concludeHalf 34 = .ok (.iaload, 1) := by decide +kernel
theorem dX10_concludeHalf_35 : decode cX10_concludeHalf 35 = .ok (.bipush 65, 2) := by decide +kernel
theorem dX10_concludeHalf_37 : decode cX10_concludeHalf 37 = .ok (.if_icmp .ne 7, 3) := by decide +kernel
theorem dX10_concludeHalf_40 : decode cX10_concludeHalf 40 = .ok (.iconst 1, 1) := by decide +kernel
theorem dX10_concludeHalf_41 : decode cX10_concludeHalf 41 = .ok (.goto 4, 3) := by decide +kernel
theorem dX10_concludeHalf_44 : decode cX10_concludeHalf 44 = .ok (.iconst 0, 1) := by decide +kernel
theorem dX10_concludeHalf_45 : decode cX10_concludeHalf 45 = .ok (.invokestatic 305, 3) := by decide +kernel
theorem dX10_concludeHalf_48 : decode cX10_concludeHalf 48 = .ok (.istore_n 3, 1) := by decide +kernel
theorem dX10_concludeHalf_49 : decode cX10_concludeHalf 49 = .ok (.iload_n 3, 1) := by decide +kernel
theorem dX10_concludeHalf_50 : decode cX10_concludeHalf 50 = .ok (.iconst (-1), 1) := by decide +kernel
theorem dX10_concludeHalf_51 : decode cX10_concludeHalf 51 = .ok (.if_icmp .eq 8, 3) := by decide +kernel
theorem dX10_concludeHalf_54 : decode cX10_concludeHalf 54 = .ok (.aload_n 0, 1) := by decide +kernel
theorem dX10_concludeHalf_55 : decode cX10_concludeHalf 55 = .ok (.iload_n 3, 1) := by decide +kernel
theorem dX10_concludeHalf_56 : decode cX10_concludeHalf 56 = .ok (.invokevirtual 292, 3) := by decide +kernel
theorem dX10_concludeHalf_59 : decode cX10_concludeHalf 59 = .ok (.aload_n 0, 1) := by decide +kernel
theorem dX10_concludeHalf_60 : decode cX10_concludeHalf 60 = .ok (.iload_n 1, 1) := by decide +kernel
theorem dX10_concludeHalf_61 : decode cX10_concludeHalf 61 = .ok (.aload_n 0, 1) := by decide +kernel
theorem dX10_concludeHalf_62 : decode cX10_concludeHalf 62 = .ok (.iload_n 2, 1) := by decide +kernel
theorem dX10_concludeHalf_63 : decode cX10_concludeHalf 63 = .ok (.invokevirtual 249, 3) := by decide +kernel
theorem dX10_concludeHalf_66 : decode cX10_concludeHalf 66 = .ok (.ifCond .ne 7, 3) := by decide +kernel
theorem dX10_concludeHalf_69 : decode cX10_concludeHalf 69 = .ok (.iconst 0, 1) := by decide +kernel
theorem dX10_concludeHalf_70 : decode cX10_concludeHalf 70 = .ok (.goto 26, 3) := by decide +kernel
theorem dX10_concludeHalf_73 : decode cX10_concludeHalf 73 = .ok (.iload_n 3, 1) := by decide +kernel
theorem dX10_concludeHalf_74 : decode cX10_concludeHalf 74 = .ok (.iconst (-1), 1) := by decide +kernel
theorem dX10_concludeHalf_75 : decode cX10_concludeHalf 75 = .ok (.if_icmp .ne 8, 3) := by decide +kernel
theorem dX10_concludeHalf_78 : decode cX10_concludeHalf 78 = .ok (.bipush 31, 2) := by decide +kernel
theorem dX10_concludeHalf_80 : decode cX10_concludeHalf 80 = .ok (.goto 16, 3) := by decide +kernel
theorem dX10_concludeHalf_83 : decode cX10_concludeHalf 83 = .ok (.aload_n 0, 1) := by decide +kernel
theorem dX10_concludeHalf_84 : decode cX10_concludeHalf 84 = .ok (.getfield 66, 3) := by decide +kernel
theorem dX10_concludeHalf_87 : decode cX10_concludeHalf 87 = .ok (.aload_n 0, 1) := by decide +kernel
theorem dX10_concludeHalf_88 : decode cX10_concludeHalf 88 = .ok (.iload_n 1, 1) := by decide +kernel
theorem dX10_concludeHalf_89 : decode cX10_concludeHalf 89 = .ok (.invokevirtual 219, 3) := by decide +kernel
theorem dX10_concludeHalf_92 : decode cX10_concludeHalf 92 = .ok (.iload_n 3, 1) := by decide +kernel
theorem dX10_concludeHalf_93 : decode cX10_concludeHalf 93 = .ok (.invokestatic 298, 3) := by decide +kernel
theorem dX10_concludeHalf_96 : decode cX10_concludeHalf 96 = .ok (.iload_n 3, 1) := by decide +kernel
theorem dX10_concludeHalf_97 : decode cX10_concludeHalf 97 = .ok (.invokevirtual 235, 3) := by decide +kernel
theorem dX10_concludeHalf_100 : decode cX10_concludeHalf 100 = .ok (.return_, 1) := by decide +kernel
set_option maxRecDepth 20000 in
set_option maxHeartbeats 4000000 in
theorem w_X10_concludeHalf {c : rX} {d : Nat} {S : rS} {K : Option Value → rS → Prop} (ho : rOK c) (p0 : Int32) (h : ∃ j1 : Nat, am_ix p0 j1 320 ∧ (rM c d eX10_typeOf (.ref c.2.2.1 :: [.int (S.1 5 j1)]) S (fun v S3 => ∃ z4 : Int32, v = some (.int z4) ∧ (((z4 &&& (-17)) = 0 → (rM c d eX10_placeOf (.ref c.2.2.1 :: [.int (S.1 5 j1)]) S3 (fun v S6 => ∃ z7 : Int32, v = some (.int z7) ∧ (∃ j8 : Nat, am_ix p0 j8 320 ∧ ((¬ (S6.1 4 j8) = 65 → (rM c d eX10_further [.int z7, .int 0] S6 (fun v S11 => ∃ z12 : Int32, v = some (.int z12) ∧ ((z12 = (-1) → (rG c eX10_concludeHalf (d + 1) (rQ c K) 59 [some (.ref c.2.2.1), some (.int p0), some (.int (S.1 5 j1)), some (.int z12)] [] S11)) ∧ (¬ z12 = (-1) → (rM c d eX10_split (.ref c.2.2.1 :: [.int z12]) S11 (fun v S14 => v = none ∧ (rG c eX10_concludeHalf (d + 1) (rQ c K) 59 [some (.ref c.2.2.1), some (.int p0), some (.int (S.1 5 j1)), some (.int z12)] [] S14)))))))) ∧ ((S6.1 4 j8) = 65 → (rM c d eX10_further [.int z7, .int 1] S6 (fun v S16 => ∃ z17 : Int32, v = some (.int z17) ∧ ((z17 = (-1) → (rG c eX10_concludeHalf (d + 1) (rQ c K) 59 [some (.ref c.2.2.1), some (.int p0), some (.int (S.1 5 j1)), some (.int z17)] [] S16)) ∧ (¬ z17 = (-1) → (rM c d eX10_split (.ref c.2.2.1 :: [.int z17]) S16 (fun v S19 => v = none ∧ (rG c eX10_concludeHalf (d + 1) (rQ c K) 59 [some (.ref c.2.2.1), some (.int p0), some (.int (S.1 5 j1)), some (.int z17)] [] S19))))))))))))) ∧ (¬ (z4 &&& (-17)) = 0 → (rM c d eX10_refuse (.ref c.2.2.1 :: [.int p0]) S3 (fun v S21 => v = none ∧ (K none S21)))))))) : rM c (d + 1) eX10_concludeHalf [.ref c.2.2.1, .int p0] S K := by
  refine rM.of (by decide) (Nat.le_of_ble_eq_true rfl) ?_
  show rG c eX10_concludeHalf (d + 1) (rQ c K) 0 [some (.ref c.2.2.1), some (.int p0), none, none] [] S
  refine ag_aload_n dX10_concludeHalf_0 rfl (Or.inr ⟨_, rfl⟩) ?_
  refine rr_get (v := .ref (c.2.2.1 + (2 + 1))) ho dX10_concludeHalf_1 fw_10_20 rfl ?_
  refine ag_iload_n dX10_concludeHalf_4 rfl ?_
  obtain ⟨j1, hj2, h⟩ := h
  refine rr_il (v := S.1 5 j1) ho dX10_concludeHalf_5 (k := 2) (f := 5) rfl hj2 rfl ?_
  refine ag_istore_n (lv2 := [some (.ref c.2.2.1), some (.int p0), some (.int (S.1 5 j1)), none]) dX10_concludeHalf_6 (Nat.le_of_ble_eq_true rfl) rfl ?_
  refine ag_aload_n dX10_concludeHalf_7 rfl (Or.inr ⟨_, rfl⟩) ?_
  refine ag_iload_n dX10_concludeHalf_8 rfl ?_
  refine rr_call (as := [.int (S.1 5 j1)]) (rest := []) ho dX10_concludeHalf_9 me_X10_typeOf mi_X10_typeOf lk_10_249 rfl rfl (Nat.le_of_ble_eq_true rfl) ?_
  refine rM.mono h ?_
  rintro v S3 ⟨z4, rfl, h⟩
  show rG _ _ _ _ _ _ [.int z4] _
  refine ag_bipush (v := (-17)) dX10_concludeHalf_12 (by decide) ?_
  refine ag_iand dX10_concludeHalf_14 rfl ?_
  refine ag_if_eq (tgt := 24) dX10_concludeHalf_15 rfl (fun hc5 => ?_) (fun hc5 => ?_)
  · have h := h.1 hc5
    refine ag_aload_n dX10_concludeHalf_24 rfl (Or.inr ⟨_, rfl⟩) ?_
    refine ag_iload_n dX10_concludeHalf_25 rfl ?_
    refine rr_call (as := [.int (S.1 5 j1)]) (rest := []) ho dX10_concludeHalf_26 me_X10_placeOf mi_X10_placeOf lk_10_246 rfl rfl (Nat.le_of_ble_eq_true rfl) ?_
    refine rM.mono h ?_
    rintro v S6 ⟨z7, rfl, h⟩
    show rG _ _ _ _ _ _ [.int z7] _
    refine ag_aload_n dX10_concludeHalf_29 rfl (Or.inr ⟨_, rfl⟩) ?_
    refine rr_get (v := .ref (c.2.2.1 + (1 + 1))) ho dX10_concludeHalf_30 fw_10_17 rfl ?_
    refine ag_iload_n dX10_concludeHalf_33 rfl ?_
    obtain ⟨j8, hj9, h⟩ := h
    refine rr_il (v := S6.1 4 j8) ho dX10_concludeHalf_34 (k := 1) (f := 4) rfl hj9 rfl ?_
    refine ag_bipush (v := 65) dX10_concludeHalf_35 (by decide) ?_
    refine ag_icmp_ne (tgt := 44) dX10_concludeHalf_37 rfl (fun hc10 => ?_) (fun hc10 => ?_)
    · have h := h.1 hc10
      refine ag_iconst (v := 0) dX10_concludeHalf_44 rfl ?_
      refine rr_calls (as := [.int z7, .int 0]) (rest := []) dX10_concludeHalf_45 me_X10_further ms_X10_further lk_10_305 rfl rfl (Nat.le_of_ble_eq_true rfl) ?_
      refine rM.mono h ?_
      rintro v S11 ⟨z12, rfl, h⟩
      show rG _ _ _ _ _ _ [.int z12] _
      refine ag_istore_n (lv2 := [some (.ref c.2.2.1), some (.int p0), some (.int (S.1 5 j1)), some (.int z12)]) dX10_concludeHalf_48 (Nat.le_of_ble_eq_true rfl) rfl ?_
      refine ag_iload_n dX10_concludeHalf_49 rfl ?_
      refine ag_iconst (v := (-1)) dX10_concludeHalf_50 rfl ?_
      refine ag_icmp_eq (tgt := 59) dX10_concludeHalf_51 rfl (fun hc13 => ?_) (fun hc13 => ?_)
      · have h := h.1 hc13
        exact h
      · have h := h.2 hc13
        refine ag_aload_n dX10_concludeHalf_54 rfl (Or.inr ⟨_, rfl⟩) ?_
        refine ag_iload_n dX10_concludeHalf_55 rfl ?_
        refine rr_call (as := [.int z12]) (rest := []) ho dX10_concludeHalf_56 me_X10_split mi_X10_split lk_10_292 rfl rfl (Nat.le_of_ble_eq_true rfl) ?_
        refine rM.mono h ?_
        rintro v S14 ⟨rfl, h⟩
        show rG _ _ _ _ _ _ [] _
        exact h
    · have h := h.2 hc10
      refine ag_iconst (v := 1) dX10_concludeHalf_40 rfl ?_
      refine ag_goto (tgt := 45) dX10_concludeHalf_41 rfl ?_
      refine rr_calls (as := [.int z7, .int 1]) (rest := []) dX10_concludeHalf_45 me_X10_further ms_X10_further lk_10_305 rfl rfl (Nat.le_of_ble_eq_true rfl) ?_
      refine rM.mono h ?_
      rintro v S16 ⟨z17, rfl, h⟩
      show rG _ _ _ _ _ _ [.int z17] _
      refine ag_istore_n (lv2 := [some (.ref c.2.2.1), some (.int p0), some (.int (S.1 5 j1)), some (.int z17)]) dX10_concludeHalf_48 (Nat.le_of_ble_eq_true rfl) rfl ?_
      refine ag_iload_n dX10_concludeHalf_49 rfl ?_
      refine ag_iconst (v := (-1)) dX10_concludeHalf_50 rfl ?_
      refine ag_icmp_eq (tgt := 59) dX10_concludeHalf_51 rfl (fun hc18 => ?_) (fun hc18 => ?_)
      · have h := h.1 hc18
        exact h
      · have h := h.2 hc18
        refine ag_aload_n dX10_concludeHalf_54 rfl (Or.inr ⟨_, rfl⟩) ?_
        refine ag_iload_n dX10_concludeHalf_55 rfl ?_
        refine rr_call (as := [.int z17]) (rest := []) ho dX10_concludeHalf_56 me_X10_split mi_X10_split lk_10_292 rfl rfl (Nat.le_of_ble_eq_true rfl) ?_
        refine rM.mono h ?_
        rintro v S19 ⟨rfl, h⟩
        show rG _ _ _ _ _ _ [] _
        exact h
  · have h := h.2 hc5
    refine ag_aload_n dX10_concludeHalf_18 rfl (Or.inr ⟨_, rfl⟩) ?_
    refine ag_iload_n dX10_concludeHalf_19 rfl ?_
    refine rr_call (as := [.int p0]) (rest := []) ho dX10_concludeHalf_20 me_X10_refuse mi_X10_refuse lk_10_302 rfl rfl (Nat.le_of_ble_eq_true rfl) ?_
    refine rM.mono h ?_
    rintro v S21 ⟨rfl, h⟩
    show rG _ _ _ _ _ _ [] _
    exact ag_ret (v := none) dX10_concludeHalf_23 rfl ⟨_, rfl, _, rfl, h⟩ rfl
set_option maxRecDepth 20000 in
set_option maxHeartbeats 4000000 in
theorem w_X10_concludeHalf_59 {c : rX} {d : Nat} {S : rS} {K : Option Value → rS → Prop} (ho : rOK c) (v1 : Int32) (v2 : Int32) (v3 : Int32) (h : rM c d eX10_typeOf (.ref c.2.2.1 :: [.int v2]) S (fun v S1 => ∃ z2 : Int32, v = some (.int z2) ∧ ((¬ z2 = 0 → ((¬ v3 = (-1) → (rM c d eX10_five (.ref c.2.2.1 :: [.int v1]) S1 (fun v S5 => ∃ z6 : Int32, v = some (.int z6) ∧ (rM c d eX10_said [.ref (c.2.2.1 + (17 + 1)), .int z6, .int v3] S5 (fun v S7 => ∃ z8 : Int32, v = some (.int z8) ∧ (rM c d eX10_finish (.ref c.2.2.1 :: [.int v1, .int z8, .int v3]) S7 (fun v S9 => v = none ∧ (K none S9)))))))) ∧ (v3 = (-1) → (rM c d eX10_finish (.ref c.2.2.1 :: [.int v1, .int 31, .int v3]) S1 (fun v S11 => v = none ∧ (K none S11)))))) ∧ (z2 = 0 → (rM c d eX10_finish (.ref c.2.2.1 :: [.int v1, .int 0, .int v3]) S1 (fun v S13 => v = none ∧ (K none S13))))))) : rG c eX10_concludeHalf (d + 1) (rQ c K) 59 [some (.ref c.2.2.1), some (.int v1), some (.int v2), some (.int v3)] [] S := by
  refine ag_aload_n dX10_concludeHalf_59 rfl (Or.inr ⟨_, rfl⟩) ?_
  refine ag_iload_n dX10_concludeHalf_60 rfl ?_
  refine ag_aload_n dX10_concludeHalf_61 rfl (Or.inr ⟨_, rfl⟩) ?_
  refine ag_iload_n dX10_concludeHalf_62 rfl ?_
  refine rr_call (as := [.int v2]) (rest := [.int v1, .ref c.2.2.1]) ho dX10_concludeHalf_63 me_X10_typeOf mi_X10_typeOf lk_10_249 rfl rfl (Nat.le_of_ble_eq_true rfl) ?_
  refine rM.mono h ?_
  rintro v S1 ⟨z2, rfl, h⟩
  show rG _ _ _ _ _ _ [.int z2, .int v1, .ref c.2.2.1] _
  refine ag_if_ne (tgt := 73) dX10_concludeHalf_66 rfl (fun hc3 => ?_) (fun hc3 => ?_)
  · have h := h.1 hc3
    refine ag_iload_n dX10_concludeHalf_73 rfl ?_
    refine ag_iconst (v := (-1)) dX10_concludeHalf_74 rfl ?_
    refine ag_icmp_ne (tgt := 83) dX10_concludeHalf_75 rfl (fun hc4 => ?_) (fun hc4 => ?_)
    · have h := h.1 hc4
      refine ag_aload_n dX10_concludeHalf_83 rfl (Or.inr ⟨_, rfl⟩) ?_
      refine rr_get (v := .ref (c.2.2.1 + (17 + 1))) ho dX10_concludeHalf_84 fw_10_66 rfl ?_
      refine ag_aload_n dX10_concludeHalf_87 rfl (Or.inr ⟨_, rfl⟩) ?_
      refine ag_iload_n dX10_concludeHalf_88 rfl ?_
      refine rr_call (as := [.int v1]) (rest := [.ref (c.2.2.1 + (17 + 1)), .int v1, .ref c.2.2.1]) ho dX10_concludeHalf_89 me_X10_five mi_X10_five lk_10_219 rfl rfl (Nat.le_of_ble_eq_true rfl) ?_
      refine rM.mono h ?_
      rintro v S5 ⟨z6, rfl, h⟩
      show rG _ _ _ _ _ _ [.int z6, .ref (c.2.2.1 + (17 + 1)), .int v1, .ref c.2.2.1] _
      refine ag_iload_n dX10_concludeHalf_92 rfl ?_
      refine rr_calls (as := [.ref (c.2.2.1 + (17 + 1)), .int z6, .int v3]) (rest := [.int v1, .ref c.2.2.1]) dX10_concludeHalf_93 me_X10_said ms_X10_said lk_10_298 rfl rfl (Nat.le_of_ble_eq_true rfl) ?_
      refine rM.mono h ?_
      rintro v S7 ⟨z8, rfl, h⟩
      show rG _ _ _ _ _ _ [.int z8, .int v1, .ref c.2.2.1] _
      refine ag_iload_n dX10_concludeHalf_96 rfl ?_
      refine rr_call (as := [.int v1, .int z8, .int v3]) (rest := []) ho dX10_concludeHalf_97 me_X10_finish mi_X10_finish lk_10_235 rfl rfl (Nat.le_of_ble_eq_true rfl) ?_
      refine rM.mono h ?_
      rintro v S9 ⟨rfl, h⟩
      show rG _ _ _ _ _ _ [] _
      exact ag_ret (v := none) dX10_concludeHalf_100 rfl ⟨_, rfl, _, rfl, h⟩ rfl
    · have h := h.2 hc4
      refine ag_bipush (v := 31) dX10_concludeHalf_78 (by decide) ?_
      refine ag_goto (tgt := 96) dX10_concludeHalf_80 rfl ?_
      refine ag_iload_n dX10_concludeHalf_96 rfl ?_
      refine rr_call (as := [.int v1, .int 31, .int v3]) (rest := []) ho dX10_concludeHalf_97 me_X10_finish mi_X10_finish lk_10_235 rfl rfl (Nat.le_of_ble_eq_true rfl) ?_
      refine rM.mono h ?_
      rintro v S11 ⟨rfl, h⟩
      show rG _ _ _ _ _ _ [] _
      exact ag_ret (v := none) dX10_concludeHalf_100 rfl ⟨_, rfl, _, rfl, h⟩ rfl
  · have h := h.2 hc3
    refine ag_iconst (v := 0) dX10_concludeHalf_69 rfl ?_
    refine ag_goto (tgt := 96) dX10_concludeHalf_70 rfl ?_
    refine ag_iload_n dX10_concludeHalf_96 rfl ?_
    refine rr_call (as := [.int v1, .int 0, .int v3]) (rest := []) ho dX10_concludeHalf_97 me_X10_finish mi_X10_finish lk_10_235 rfl rfl (Nat.le_of_ble_eq_true rfl) ?_
    refine rM.mono h ?_
    rintro v S13 ⟨rfl, h⟩
    show rG _ _ _ _ _ _ [] _
    exact ag_ret (v := none) dX10_concludeHalf_100 rfl ⟨_, rfl, _, rfl, h⟩ rfl
theorem dX10_concludeSum_0 : decode cX10_concludeSum 0 = .ok (.aload_n 0, 1) := by decide +kernel
theorem dX10_concludeSum_1 : decode cX10_concludeSum 1 = .ok (.aload_n 0, 1) := by decide +kernel
theorem dX10_concludeSum_2 : decode cX10_concludeSum 2 = .ok (.getfield 20, 3) := by decide +kernel
theorem dX10_concludeSum_5 : decode cX10_concludeSum 5 = .ok (.iload_n 1, 1) := by decide +kernel
theorem dX10_concludeSum_6 : decode cX10_concludeSum 6 = .ok (.iaload, 1) := by decide +kernel
theorem dX10_concludeSum_7 : decode cX10_concludeSum 7 = .ok (.invokevirtual 249, 3) := by decide +kernel
theorem dX10_concludeSum_10 : decode cX10_concludeSum 10 = .ok (.aload_n 0, 1) := by decide +kernel
theorem dX10_concludeSum_11 : decode cX10_concludeSum 11 = .ok (.aload_n 0, 1) := by decide +kernel
theorem dX10_concludeSum_12 : decode cX10_concludeSum 12 = .ok (.getfield 23, 3) := by decide +kernel
theorem dX10_concludeSum_15 : decode cX10_concludeSum 15 = .ok (.iload_n 1, 1) := by decide +kernel
theorem dX10_concludeSum_16 : decode cX10_concludeSum 16 = .ok (.iaload, 1) := by decide +kernel
theorem dX10_concludeSum_17 : decode cX10_concludeSum 17 = .ok (.invokevirtual 249, 3) := by decide +kernel
theorem dX10_concludeSum_20 : decode cX10_concludeSum 20 = .ok (.ior, 1) := by decide +kernel
theorem dX10_concludeSum_21 : decode cX10_concludeSum 21 = .ok (.bipush (-2), 2) := by decide +kernel
theorem dX10_concludeSum_23 : decode cX10_concludeSum 23 = .ok (.iand, 1) := by decide +kernel
theorem dX10_concludeSum_24 : decode cX10_concludeSum 24 = .ok (.ifCond .eq 11, 3) := by decide +kernel
theorem dX10_concludeSum_27 : decode cX10_concludeSum 27 = .ok (.aload_n 0, 1) := by decide +kernel
theorem dX10_concludeSum_28 : decode cX10_concludeSum 28 = .ok (.iload_n 1, 1) := by decide +kernel
theorem dX10_concludeSum_29 : decode cX10_concludeSum 29 = .ok (.invokevirtual 302, 3) := by decide +kernel
theorem dX10_concludeSum_32 : decode cX10_concludeSum 32 = .ok (.goto 26, 3) := by decide +kernel
theorem dX10_concludeSum_35 : decode cX10_concludeSum 35 = .ok (.aload_n 0, 1) := by decide +kernel
theorem dX10_concludeSum_36 : decode cX10_concludeSum 36 = .ok (.iload_n 1, 1) := by decide +kernel
theorem dX10_concludeSum_37 : decode cX10_concludeSum 37 = .ok (.aload_n 0, 1) := by decide +kernel
theorem dX10_concludeSum_38 : decode cX10_concludeSum 38 = .ok (.getfield 17, 3) := by decide +kernel
theorem dX10_concludeSum_41 : decode cX10_concludeSum 41 = .ok (.iload_n 1, 1) := by decide +kernel
theorem dX10_concludeSum_42 : decode cX10_concludeSum 42 = .ok (.iaload, 1) := by decide +kernel
theorem dX10_concludeSum_43 : decode cX10_concludeSum 43 = .ok (.bipush 60, 2) := by decide +kernel
theorem dX10_concludeSum_45 : decode cX10_concludeSum 45 = .ok (.if_icmp .ne 8, 3) := by decide +kernel
theorem dX10_concludeSum_48 : decode cX10_concludeSum 48 = .ok (.bipush 6, 2) := by decide +kernel
theorem dX10_concludeSum_50 : decode cX10_concludeSum 50 = .ok (.goto 4, 3) := by decide +kernel
theorem dX10_concludeSum_53 : decode cX10_concludeSum 53 = .ok (.iconst 1, 1) := by decide +kernel
theorem dX10_concludeSum_54 : decode cX10_concludeSum 54 = .ok (.iconst (-1), 1) := by decide +kernel
theorem dX10_concludeSum_55 : decode cX10_concludeSum 55 = .ok (.invokevirtual 235, 3) := by decide +kernel
theorem dX10_concludeSum_58 : decode cX10_concludeSum 58 = .ok (.return_, 1) := by decide +kernel
set_option maxRecDepth 20000 in
set_option maxHeartbeats 4000000 in
theorem w_X10_concludeSum {c : rX} {d : Nat} {S : rS} {K : Option Value → rS → Prop} (ho : rOK c) (p0 : Int32) (h : ∃ j1 : Nat, am_ix p0 j1 320 ∧ (rM c d eX10_typeOf (.ref c.2.2.1 :: [.int (S.1 5 j1)]) S (fun v S3 => ∃ z4 : Int32, v = some (.int z4) ∧ (∃ j5 : Nat, am_ix p0 j5 320 ∧ (rM c d eX10_typeOf (.ref c.2.2.1 :: [.int (S3.1 6 j5)]) S3 (fun v S7 => ∃ z8 : Int32, v = some (.int z8) ∧ ((((z4 ||| z8) &&& (-2)) = 0 → (∃ j10 : Nat, am_ix p0 j10 320 ∧ ((¬ (S7.1 4 j10) = 60 → (rM c d eX10_finish (.ref c.2.2.1 :: [.int p0, .int 1, .int (-1)]) S7 (fun v S13 => v = none ∧ (K none S13)))) ∧ ((S7.1 4 j10) = 60 → (rM c d eX10_finish (.ref c.2.2.1 :: [.int p0, .int 6, .int (-1)]) S7 (fun v S15 => v = none ∧ (K none S15))))))) ∧ (¬ ((z4 ||| z8) &&& (-2)) = 0 → (rM c d eX10_refuse (.ref c.2.2.1 :: [.int p0]) S7 (fun v S17 => v = none ∧ (K none S17))))))))))) : rM c (d + 1) eX10_concludeSum [.ref c.2.2.1, .int p0] S K := by
  refine rM.of (by decide) (Nat.le_of_ble_eq_true rfl) ?_
  show rG c eX10_concludeSum (d + 1) (rQ c K) 0 [some (.ref c.2.2.1), some (.int p0)] [] S
  refine ag_aload_n dX10_concludeSum_0 rfl (Or.inr ⟨_, rfl⟩) ?_
  refine ag_aload_n dX10_concludeSum_1 rfl (Or.inr ⟨_, rfl⟩) ?_
  refine rr_get (v := .ref (c.2.2.1 + (2 + 1))) ho dX10_concludeSum_2 fw_10_20 rfl ?_
  refine ag_iload_n dX10_concludeSum_5 rfl ?_
  obtain ⟨j1, hj2, h⟩ := h
  refine rr_il (v := S.1 5 j1) ho dX10_concludeSum_6 (k := 2) (f := 5) rfl hj2 rfl ?_
  refine rr_call (as := [.int (S.1 5 j1)]) (rest := []) ho dX10_concludeSum_7 me_X10_typeOf mi_X10_typeOf lk_10_249 rfl rfl (Nat.le_of_ble_eq_true rfl) ?_
  refine rM.mono h ?_
  rintro v S3 ⟨z4, rfl, h⟩
  show rG _ _ _ _ _ _ [.int z4] _
  refine ag_aload_n dX10_concludeSum_10 rfl (Or.inr ⟨_, rfl⟩) ?_
  refine ag_aload_n dX10_concludeSum_11 rfl (Or.inr ⟨_, rfl⟩) ?_
  refine rr_get (v := .ref (c.2.2.1 + (3 + 1))) ho dX10_concludeSum_12 fw_10_23 rfl ?_
  refine ag_iload_n dX10_concludeSum_15 rfl ?_
  obtain ⟨j5, hj6, h⟩ := h
  refine rr_il (v := S3.1 6 j5) ho dX10_concludeSum_16 (k := 3) (f := 6) rfl hj6 rfl ?_
  refine rr_call (as := [.int (S3.1 6 j5)]) (rest := [.int z4]) ho dX10_concludeSum_17 me_X10_typeOf mi_X10_typeOf lk_10_249 rfl rfl (Nat.le_of_ble_eq_true rfl) ?_
  refine rM.mono h ?_
  rintro v S7 ⟨z8, rfl, h⟩
  show rG _ _ _ _ _ _ [.int z8, .int z4] _
  refine ag_ior dX10_concludeSum_20 rfl ?_
  refine ag_bipush (v := (-2)) dX10_concludeSum_21 (by decide) ?_
  refine ag_iand dX10_concludeSum_23 rfl ?_
  refine ag_if_eq (tgt := 35) dX10_concludeSum_24 rfl (fun hc9 => ?_) (fun hc9 => ?_)
  · have h := h.1 hc9
    refine ag_aload_n dX10_concludeSum_35 rfl (Or.inr ⟨_, rfl⟩) ?_
    refine ag_iload_n dX10_concludeSum_36 rfl ?_
    refine ag_aload_n dX10_concludeSum_37 rfl (Or.inr ⟨_, rfl⟩) ?_
    refine rr_get (v := .ref (c.2.2.1 + (1 + 1))) ho dX10_concludeSum_38 fw_10_17 rfl ?_
    refine ag_iload_n dX10_concludeSum_41 rfl ?_
    obtain ⟨j10, hj11, h⟩ := h
    refine rr_il (v := S7.1 4 j10) ho dX10_concludeSum_42 (k := 1) (f := 4) rfl hj11 rfl ?_
    refine ag_bipush (v := 60) dX10_concludeSum_43 (by decide) ?_
    refine ag_icmp_ne (tgt := 53) dX10_concludeSum_45 rfl (fun hc12 => ?_) (fun hc12 => ?_)
    · have h := h.1 hc12
      refine ag_iconst (v := 1) dX10_concludeSum_53 rfl ?_
      refine ag_iconst (v := (-1)) dX10_concludeSum_54 rfl ?_
      refine rr_call (as := [.int p0, .int 1, .int (-1)]) (rest := []) ho dX10_concludeSum_55 me_X10_finish mi_X10_finish lk_10_235 rfl rfl (Nat.le_of_ble_eq_true rfl) ?_
      refine rM.mono h ?_
      rintro v S13 ⟨rfl, h⟩
      show rG _ _ _ _ _ _ [] _
      exact ag_ret (v := none) dX10_concludeSum_58 rfl ⟨_, rfl, _, rfl, h⟩ rfl
    · have h := h.2 hc12
      refine ag_bipush (v := 6) dX10_concludeSum_48 (by decide) ?_
      refine ag_goto (tgt := 54) dX10_concludeSum_50 rfl ?_
      refine ag_iconst (v := (-1)) dX10_concludeSum_54 rfl ?_
      refine rr_call (as := [.int p0, .int 6, .int (-1)]) (rest := []) ho dX10_concludeSum_55 me_X10_finish mi_X10_finish lk_10_235 rfl rfl (Nat.le_of_ble_eq_true rfl) ?_
      refine rM.mono h ?_
      rintro v S15 ⟨rfl, h⟩
      show rG _ _ _ _ _ _ [] _
      exact ag_ret (v := none) dX10_concludeSum_58 rfl ⟨_, rfl, _, rfl, h⟩ rfl
  · have h := h.2 hc9
    refine ag_aload_n dX10_concludeSum_27 rfl (Or.inr ⟨_, rfl⟩) ?_
    refine ag_iload_n dX10_concludeSum_28 rfl ?_
    refine rr_call (as := [.int p0]) (rest := []) ho dX10_concludeSum_29 me_X10_refuse mi_X10_refuse lk_10_302 rfl rfl (Nat.le_of_ble_eq_true rfl) ?_
    refine rM.mono h ?_
    rintro v S17 ⟨rfl, h⟩
    show rG _ _ _ _ _ _ [] _
    refine ag_goto (tgt := 58) dX10_concludeSum_32 rfl ?_
    exact ag_ret (v := none) dX10_concludeSum_58 rfl ⟨_, rfl, _, rfl, h⟩ rfl
theorem dX10_concludeIf_0 : decode cX10_concludeIf 0 = .ok (.aload_n 0, 1) := by decide +kernel
theorem dX10_concludeIf_1 : decode cX10_concludeIf 1 = .ok (.getfield 23, 3) := by decide +kernel
theorem dX10_concludeIf_4 : decode cX10_concludeIf 4 = .ok (.iload_n 1, 1) := by decide +kernel
theorem dX10_concludeIf_5 : decode cX10_concludeIf 5 = .ok (.iaload, 1) := by decide +kernel
theorem dX10_concludeIf_6 : decode cX10_concludeIf 6 = .ok (.istore_n 2, 1) := by decide +kernel
theorem dX10_concludeIf_7 : decode cX10_concludeIf 7 = .ok (.aload_n 0, 1) := by decide +kernel
theorem dX10_concludeIf_8 : decode cX10_concludeIf 8 = .ok (.getfield 26, 3) := by decide +kernel
theorem dX10_concludeIf_11 : decode cX10_concludeIf 11 = .ok (.iload_n 1, 1) := by decide +kernel
theorem dX10_concludeIf_12 : decode cX10_concludeIf 12 = .ok (.iaload, 1) := by decide +kernel
theorem dX10_concludeIf_13 : decode cX10_concludeIf 13 = .ok (.istore_n 3, 1) := by decide +kernel
theorem dX10_concludeIf_14 : decode cX10_concludeIf 14 = .ok (.aload_n 0, 1) := by decide +kernel
theorem dX10_concludeIf_15 : decode cX10_concludeIf 15 = .ok (.getfield 70, 3) := by decide +kernel
theorem dX10_concludeIf_18 : decode cX10_concludeIf 18 = .ok (.aload_n 0, 1) := by decide +kernel
theorem dX10_concludeIf_19 : decode cX10_concludeIf 19 = .ok (.iload_n 2, 1) := by decide +kernel
theorem dX10_concludeIf_20 : decode cX10_concludeIf 20 = .ok (.invokevirtual 219, 3) := by decide +kernel
theorem dX10_concludeIf_23 : decode cX10_concludeIf 23 = .ok (.aload_n 0, 1) := by decide +kernel
theorem dX10_concludeIf_24 : decode cX10_concludeIf 24 = .ok (.getfield 97, 3) := by decide +kernel
theorem dX10_concludeIf_27 : decode cX10_concludeIf 27 = .ok (.iconst 0, 1) := by decide +kernel
theorem dX10_concludeIf_28 : decode cX10_concludeIf 28 = .ok (.invokestatic 222, 3) := by decide +kernel
theorem dX10_concludeIf_31 : decode cX10_concludeIf 31 = .ok (.aload_n 0, 1) := by decide +kernel
theorem dX10_concludeIf_32 : decode cX10_concludeIf 32 = .ok (.getfield 97, 3) := by decide +kernel
theorem dX10_concludeIf_35 : decode cX10_concludeIf 35 = .ok (.iconst 0, 1) := by decide +kernel
theorem dX10_concludeIf_36 : decode cX10_concludeIf 36 = .ok (.aload_n 0, 1) := by decide +kernel
theorem dX10_concludeIf_37 : decode cX10_concludeIf 37 = .ok (.getfield 70, 3) := by decide +kernel
theorem dX10_concludeIf_40 : decode cX10_concludeIf 40 = .ok (.aload_n 0, 1) := by decide +kernel
theorem dX10_concludeIf_41 : decode cX10_concludeIf 41 = .ok (.iload_n 3, 1) := by decide +kernel
theorem dX10_concludeIf_42 : decode cX10_concludeIf 42 = .ok (.invokevirtual 219, 3) := by decide +kernel
theorem dX10_concludeIf_45 : decode cX10_concludeIf 45 = .ok (.invokestatic 309, 3) := by decide +kernel
theorem dX10_concludeIf_48 : decode cX10_concludeIf 48 = .ok (.aload_n 0, 1) := by decide +kernel
theorem dX10_concludeIf_49 : decode cX10_concludeIf 49 = .ok (.getfield 73, 3) := by decide +kernel
theorem dX10_concludeIf_52 : decode cX10_concludeIf 52 = .ok (.aload_n 0, 1) := by decide +kernel
theorem dX10_concludeIf_53 : decode cX10_concludeIf 53 = .ok (.iload_n 2, 1) := by decide +kernel
theorem dX10_concludeIf_54 : decode cX10_concludeIf 54 = .ok (.invokevirtual 219, 3) := by decide +kernel
theorem dX10_concludeIf_57 : decode cX10_concludeIf 57 = .ok (.aload_n 0, 1) := by decide +kernel
theorem dX10_concludeIf_58 : decode cX10_concludeIf 58 = .ok (.getfield 100, 3) := by decide +kernel
theorem dX10_concludeIf_61 : decode cX10_concludeIf 61 = .ok (.iconst 0, 1) := by decide +kernel
theorem dX10_concludeIf_62 : decode cX10_concludeIf 62 = .ok (.invokestatic 222, 3) := by decide +kernel
theorem dX10_concludeIf_65 : decode cX10_concludeIf 65 = .ok (.aload_n 0, 1) := by decide +kernel
theorem dX10_concludeIf_66 : decode cX10_concludeIf 66 = .ok (.getfield 100, 3) := by decide +kernel
theorem dX10_concludeIf_69 : decode cX10_concludeIf 69 = .ok (.iconst 0, 1) := by decide +kernel
theorem dX10_concludeIf_70 : decode cX10_concludeIf 70 = .ok (.aload_n 0, 1) := by decide +kernel
theorem dX10_concludeIf_71 : decode cX10_concludeIf 71 = .ok (.getfield 73, 3) := by decide +kernel
theorem dX10_concludeIf_74 : decode cX10_concludeIf 74 = .ok (.aload_n 0, 1) := by decide +kernel
theorem dX10_concludeIf_75 : decode cX10_concludeIf 75 = .ok (.iload_n 3, 1) := by decide +kernel
theorem dX10_concludeIf_76 : decode cX10_concludeIf 76 = .ok (.invokevirtual 219, 3) := by decide +kernel
theorem dX10_concludeIf_79 : decode cX10_concludeIf 79 = .ok (.invokestatic 309, 3) := by decide +kernel
theorem dX10_concludeIf_82 : decode cX10_concludeIf 82 = .ok (.aload_n 0, 1) := by decide +kernel
theorem dX10_concludeIf_83 : decode cX10_concludeIf 83 = .ok (.iload_n 1, 1) := by decide +kernel
theorem dX10_concludeIf_84 : decode cX10_concludeIf 84 = .ok (.aload_n 0, 1) := by decide +kernel
theorem dX10_concludeIf_85 : decode cX10_concludeIf 85 = .ok (.iload_n 2, 1) := by decide +kernel
theorem dX10_concludeIf_86 : decode cX10_concludeIf 86 = .ok (.invokevirtual 249, 3) := by decide +kernel
theorem dX10_concludeIf_89 : decode cX10_concludeIf 89 = .ok (.aload_n 0, 1) := by decide +kernel
theorem dX10_concludeIf_90 : decode cX10_concludeIf 90 = .ok (.iload_n 3, 1) := by decide +kernel
theorem dX10_concludeIf_91 : decode cX10_concludeIf 91 = .ok (.invokevirtual 249, 3) := by decide +kernel
theorem dX10_concludeIf_94 : decode cX10_concludeIf 94 = .ok (.ior, 1) := by decide +kernel
theorem dX10_concludeIf_95 : decode cX10_concludeIf 95 = .ok (.iconst (-1), 1) := by decide +kernel
theorem dX10_concludeIf_96 : decode cX10_concludeIf 96 = .ok (.invokevirtual 235, 3) := by decide +kernel
theorem dX10_concludeIf_99 : decode cX10_concludeIf 99 = .ok (.return_, 1) := by decide +kernel
set_option maxRecDepth 20000 in
set_option maxHeartbeats 4000000 in
theorem w_X10_concludeIf {c : rX} {d : Nat} {S : rS} {K : Option Value → rS → Prop} (ho : rOK c) (p0 : Int32) (h : ∃ j1 : Nat, am_ix p0 j1 320 ∧ (∃ j3 : Nat, am_ix p0 j3 320 ∧ (rM c d eX10_five (.ref c.2.2.1 :: [.int (S.1 6 j1)]) S (fun v S5 => ∃ z6 : Int32, v = some (.int z6) ∧ (rM c d eX10_copy [.ref (c.2.2.1 + (18 + 1)), .int z6, .ref (c.2.2.1 + (27 + 1)), .int 0] S5 (fun v S7 => v = none ∧ (rM c d eX10_five (.ref c.2.2.1 :: [.int (S.1 7 j3)]) S7 (fun v S9 => ∃ z10 : Int32, v = some (.int z10) ∧ (rM c d eX10_either [.ref (c.2.2.1 + (27 + 1)), .int 0, .ref (c.2.2.1 + (18 + 1)), .int z10] S9 (fun v S11 => v = none ∧ (rM c d eX10_five (.ref c.2.2.1 :: [.int (S.1 6 j1)]) S11 (fun v S13 => ∃ z14 : Int32, v = some (.int z14) ∧ (rM c d eX10_copy [.ref (c.2.2.1 + (19 + 1)), .int z14, .ref (c.2.2.1 + (28 + 1)), .int 0] S13 (fun v S15 => v = none ∧ (rM c d eX10_five (.ref c.2.2.1 :: [.int (S.1 7 j3)]) S15 (fun v S17 => ∃ z18 : Int32, v = some (.int z18) ∧ (rM c d eX10_either [.ref (c.2.2.1 + (28 + 1)), .int 0, .ref (c.2.2.1 + (19 + 1)), .int z18] S17 (fun v S19 => v = none ∧ (rM c d eX10_typeOf (.ref c.2.2.1 :: [.int (S.1 6 j1)]) S19 (fun v S21 => ∃ z22 : Int32, v = some (.int z22) ∧ (rM c d eX10_typeOf (.ref c.2.2.1 :: [.int (S.1 7 j3)]) S21 (fun v S23 => ∃ z24 : Int32, v = some (.int z24) ∧ (rM c d eX10_finish (.ref c.2.2.1 :: [.int p0, .int (z22 ||| z24), .int (-1)]) S23 (fun v S25 => v = none ∧ (K none S25))))))))))))))))))))))))) : rM c (d + 1) eX10_concludeIf [.ref c.2.2.1, .int p0] S K := by
  refine rM.of (by decide) (Nat.le_of_ble_eq_true rfl) ?_
  show rG c eX10_concludeIf (d + 1) (rQ c K) 0 [some (.ref c.2.2.1), some (.int p0), none, none] [] S
  refine ag_aload_n dX10_concludeIf_0 rfl (Or.inr ⟨_, rfl⟩) ?_
  refine rr_get (v := .ref (c.2.2.1 + (3 + 1))) ho dX10_concludeIf_1 fw_10_23 rfl ?_
  refine ag_iload_n dX10_concludeIf_4 rfl ?_
  obtain ⟨j1, hj2, h⟩ := h
  refine rr_il (v := S.1 6 j1) ho dX10_concludeIf_5 (k := 3) (f := 6) rfl hj2 rfl ?_
  refine ag_istore_n (lv2 := [some (.ref c.2.2.1), some (.int p0), some (.int (S.1 6 j1)), none]) dX10_concludeIf_6 (Nat.le_of_ble_eq_true rfl) rfl ?_
  refine ag_aload_n dX10_concludeIf_7 rfl (Or.inr ⟨_, rfl⟩) ?_
  refine rr_get (v := .ref (c.2.2.1 + (4 + 1))) ho dX10_concludeIf_8 fw_10_26 rfl ?_
  refine ag_iload_n dX10_concludeIf_11 rfl ?_
  obtain ⟨j3, hj4, h⟩ := h
  refine rr_il (v := S.1 7 j3) ho dX10_concludeIf_12 (k := 4) (f := 7) rfl hj4 rfl ?_
  refine ag_istore_n (lv2 := [some (.ref c.2.2.1), some (.int p0), some (.int (S.1 6 j1)), some (.int (S.1 7 j3))]) dX10_concludeIf_13 (Nat.le_of_ble_eq_true rfl) rfl ?_
  refine ag_aload_n dX10_concludeIf_14 rfl (Or.inr ⟨_, rfl⟩) ?_
  refine rr_get (v := .ref (c.2.2.1 + (18 + 1))) ho dX10_concludeIf_15 fw_10_70 rfl ?_
  refine ag_aload_n dX10_concludeIf_18 rfl (Or.inr ⟨_, rfl⟩) ?_
  refine ag_iload_n dX10_concludeIf_19 rfl ?_
  refine rr_call (as := [.int (S.1 6 j1)]) (rest := [.ref (c.2.2.1 + (18 + 1))]) ho dX10_concludeIf_20 me_X10_five mi_X10_five lk_10_219 rfl rfl (Nat.le_of_ble_eq_true rfl) ?_
  refine rM.mono h ?_
  rintro v S5 ⟨z6, rfl, h⟩
  show rG _ _ _ _ _ _ [.int z6, .ref (c.2.2.1 + (18 + 1))] _
  refine ag_aload_n dX10_concludeIf_23 rfl (Or.inr ⟨_, rfl⟩) ?_
  refine rr_get (v := .ref (c.2.2.1 + (27 + 1))) ho dX10_concludeIf_24 fw_10_97 rfl ?_
  refine ag_iconst (v := 0) dX10_concludeIf_27 rfl ?_
  refine rr_calls (as := [.ref (c.2.2.1 + (18 + 1)), .int z6, .ref (c.2.2.1 + (27 + 1)), .int 0]) (rest := []) dX10_concludeIf_28 me_X10_copy ms_X10_copy lk_10_222 rfl rfl (Nat.le_of_ble_eq_true rfl) ?_
  refine rM.mono h ?_
  rintro v S7 ⟨rfl, h⟩
  show rG _ _ _ _ _ _ [] _
  refine ag_aload_n dX10_concludeIf_31 rfl (Or.inr ⟨_, rfl⟩) ?_
  refine rr_get (v := .ref (c.2.2.1 + (27 + 1))) ho dX10_concludeIf_32 fw_10_97 rfl ?_
  refine ag_iconst (v := 0) dX10_concludeIf_35 rfl ?_
  refine ag_aload_n dX10_concludeIf_36 rfl (Or.inr ⟨_, rfl⟩) ?_
  refine rr_get (v := .ref (c.2.2.1 + (18 + 1))) ho dX10_concludeIf_37 fw_10_70 rfl ?_
  refine ag_aload_n dX10_concludeIf_40 rfl (Or.inr ⟨_, rfl⟩) ?_
  refine ag_iload_n dX10_concludeIf_41 rfl ?_
  refine rr_call (as := [.int (S.1 7 j3)]) (rest := [.ref (c.2.2.1 + (18 + 1)), .int 0, .ref (c.2.2.1 + (27 + 1))]) ho dX10_concludeIf_42 me_X10_five mi_X10_five lk_10_219 rfl rfl (Nat.le_of_ble_eq_true rfl) ?_
  refine rM.mono h ?_
  rintro v S9 ⟨z10, rfl, h⟩
  show rG _ _ _ _ _ _ [.int z10, .ref (c.2.2.1 + (18 + 1)), .int 0, .ref (c.2.2.1 + (27 + 1))] _
  refine rr_calls (as := [.ref (c.2.2.1 + (27 + 1)), .int 0, .ref (c.2.2.1 + (18 + 1)), .int z10]) (rest := []) dX10_concludeIf_45 me_X10_either ms_X10_either lk_10_309 rfl rfl (Nat.le_of_ble_eq_true rfl) ?_
  refine rM.mono h ?_
  rintro v S11 ⟨rfl, h⟩
  show rG _ _ _ _ _ _ [] _
  refine ag_aload_n dX10_concludeIf_48 rfl (Or.inr ⟨_, rfl⟩) ?_
  refine rr_get (v := .ref (c.2.2.1 + (19 + 1))) ho dX10_concludeIf_49 fw_10_73 rfl ?_
  refine ag_aload_n dX10_concludeIf_52 rfl (Or.inr ⟨_, rfl⟩) ?_
  refine ag_iload_n dX10_concludeIf_53 rfl ?_
  refine rr_call (as := [.int (S.1 6 j1)]) (rest := [.ref (c.2.2.1 + (19 + 1))]) ho dX10_concludeIf_54 me_X10_five mi_X10_five lk_10_219 rfl rfl (Nat.le_of_ble_eq_true rfl) ?_
  refine rM.mono h ?_
  rintro v S13 ⟨z14, rfl, h⟩
  show rG _ _ _ _ _ _ [.int z14, .ref (c.2.2.1 + (19 + 1))] _
  refine ag_aload_n dX10_concludeIf_57 rfl (Or.inr ⟨_, rfl⟩) ?_
  refine rr_get (v := .ref (c.2.2.1 + (28 + 1))) ho dX10_concludeIf_58 fw_10_100 rfl ?_
  refine ag_iconst (v := 0) dX10_concludeIf_61 rfl ?_
  refine rr_calls (as := [.ref (c.2.2.1 + (19 + 1)), .int z14, .ref (c.2.2.1 + (28 + 1)), .int 0]) (rest := []) dX10_concludeIf_62 me_X10_copy ms_X10_copy lk_10_222 rfl rfl (Nat.le_of_ble_eq_true rfl) ?_
  refine rM.mono h ?_
  rintro v S15 ⟨rfl, h⟩
  show rG _ _ _ _ _ _ [] _
  refine ag_aload_n dX10_concludeIf_65 rfl (Or.inr ⟨_, rfl⟩) ?_
  refine rr_get (v := .ref (c.2.2.1 + (28 + 1))) ho dX10_concludeIf_66 fw_10_100 rfl ?_
  refine ag_iconst (v := 0) dX10_concludeIf_69 rfl ?_
  refine ag_aload_n dX10_concludeIf_70 rfl (Or.inr ⟨_, rfl⟩) ?_
  refine rr_get (v := .ref (c.2.2.1 + (19 + 1))) ho dX10_concludeIf_71 fw_10_73 rfl ?_
  refine ag_aload_n dX10_concludeIf_74 rfl (Or.inr ⟨_, rfl⟩) ?_
  refine ag_iload_n dX10_concludeIf_75 rfl ?_
  refine rr_call (as := [.int (S.1 7 j3)]) (rest := [.ref (c.2.2.1 + (19 + 1)), .int 0, .ref (c.2.2.1 + (28 + 1))]) ho dX10_concludeIf_76 me_X10_five mi_X10_five lk_10_219 rfl rfl (Nat.le_of_ble_eq_true rfl) ?_
  refine rM.mono h ?_
  rintro v S17 ⟨z18, rfl, h⟩
  show rG _ _ _ _ _ _ [.int z18, .ref (c.2.2.1 + (19 + 1)), .int 0, .ref (c.2.2.1 + (28 + 1))] _
  refine rr_calls (as := [.ref (c.2.2.1 + (28 + 1)), .int 0, .ref (c.2.2.1 + (19 + 1)), .int z18]) (rest := []) dX10_concludeIf_79 me_X10_either ms_X10_either lk_10_309 rfl rfl (Nat.le_of_ble_eq_true rfl) ?_
  refine rM.mono h ?_
  rintro v S19 ⟨rfl, h⟩
  show rG _ _ _ _ _ _ [] _
  refine ag_aload_n dX10_concludeIf_82 rfl (Or.inr ⟨_, rfl⟩) ?_
  refine ag_iload_n dX10_concludeIf_83 rfl ?_
  refine ag_aload_n dX10_concludeIf_84 rfl (Or.inr ⟨_, rfl⟩) ?_
  refine ag_iload_n dX10_concludeIf_85 rfl ?_
  refine rr_call (as := [.int (S.1 6 j1)]) (rest := [.int p0, .ref c.2.2.1]) ho dX10_concludeIf_86 me_X10_typeOf mi_X10_typeOf lk_10_249 rfl rfl (Nat.le_of_ble_eq_true rfl) ?_
  refine rM.mono h ?_
  rintro v S21 ⟨z22, rfl, h⟩
  show rG _ _ _ _ _ _ [.int z22, .int p0, .ref c.2.2.1] _
  refine ag_aload_n dX10_concludeIf_89 rfl (Or.inr ⟨_, rfl⟩) ?_
  refine ag_iload_n dX10_concludeIf_90 rfl ?_
  refine rr_call (as := [.int (S.1 7 j3)]) (rest := [.int z22, .int p0, .ref c.2.2.1]) ho dX10_concludeIf_91 me_X10_typeOf mi_X10_typeOf lk_10_249 rfl rfl (Nat.le_of_ble_eq_true rfl) ?_
  refine rM.mono h ?_
  rintro v S23 ⟨z24, rfl, h⟩
  show rG _ _ _ _ _ _ [.int z24, .int z22, .int p0, .ref c.2.2.1] _
  refine ag_ior dX10_concludeIf_94 rfl ?_
  refine ag_iconst (v := (-1)) dX10_concludeIf_95 rfl ?_
  refine rr_call (as := [.int p0, .int (z22 ||| z24), .int (-1)]) (rest := []) ho dX10_concludeIf_96 me_X10_finish mi_X10_finish lk_10_235 rfl rfl (Nat.le_of_ble_eq_true rfl) ?_
  refine rM.mono h ?_
  rintro v S25 ⟨rfl, h⟩
  show rG _ _ _ _ _ _ [] _
  exact ag_ret (v := none) dX10_concludeIf_99 rfl ⟨_, rfl, _, rfl, h⟩ rfl
theorem dX10_concludeAnd_0 : decode cX10_concludeAnd 0 = .ok (.aload_n 0, 1) := by decide +kernel
theorem dX10_concludeAnd_1 : decode cX10_concludeAnd 1 = .ok (.getfield 20, 3) := by decide +kernel
theorem dX10_concludeAnd_4 : decode cX10_concludeAnd 4 = .ok (.iload_n 1, 1) := by decide +kernel
theorem dX10_concludeAnd_5 : decode cX10_concludeAnd 5 = .ok (.iaload, 1) := by decide +kernel
theorem dX10_concludeAnd_6 : decode cX10_concludeAnd 6 = .ok (.istore_n 2, 1) := by decide +kernel
theorem dX10_concludeAnd_7 : decode cX10_concludeAnd 7 = .ok (.aload_n 0, 1) := by decide +kernel
theorem dX10_concludeAnd_8 : decode cX10_concludeAnd 8 = .ok (.getfield 23, 3) := by decide +kernel
theorem dX10_concludeAnd_11 : decode cX10_concludeAnd 11 = .ok (.iload_n 1, 1) := by decide +kernel
theorem dX10_concludeAnd_12 : decode cX10_concludeAnd 12 = .ok (.iaload, 1) := by decide +kernel
theorem dX10_concludeAnd_13 : decode cX10_concludeAnd 13 = .ok (.istore_n 3, 1) := by decide +kernel
theorem dX10_concludeAnd_14 : decode cX10_concludeAnd 14 = .ok (.aload_n 0, 1) := by decide +kernel
theorem dX10_concludeAnd_15 : decode cX10_concludeAnd 15 = .ok (.getfield 70, 3) := by decide +kernel
theorem dX10_concludeAnd_18 : decode cX10_concludeAnd 18 = .ok (.aload_n 0, 1) := by decide +kernel
theorem dX10_concludeAnd_19 : decode cX10_concludeAnd 19 = .ok (.iload_n 3, 1) := by decide +kernel
theorem dX10_concludeAnd_20 : decode cX10_concludeAnd 20 = .ok (.invokevirtual 219, 3) := by decide +kernel
theorem dX10_concludeAnd_23 : decode cX10_concludeAnd 23 = .ok (.aload_n 0, 1) := by decide +kernel
theorem dX10_concludeAnd_24 : decode cX10_concludeAnd 24 = .ok (.getfield 97, 3) := by decide +kernel
theorem dX10_concludeAnd_27 : decode cX10_concludeAnd 27 = .ok (.iconst 0, 1) := by decide +kernel
theorem dX10_concludeAnd_28 : decode cX10_concludeAnd 28 = .ok (.invokestatic 222, 3) := by decide +kernel
theorem dX10_concludeAnd_31 : decode cX10_concludeAnd 31 = .ok (.aload_n 0, 1) := by decide +kernel
theorem dX10_concludeAnd_32 : decode cX10_concludeAnd 32 = .ok (.getfield 73, 3) := by decide +kernel
theorem dX10_concludeAnd_35 : decode cX10_concludeAnd 35 = .ok (.aload_n 0, 1) := by decide +kernel
theorem dX10_concludeAnd_36 : decode cX10_concludeAnd 36 = .ok (.iload_n 3, 1) := by decide +kernel
theorem dX10_concludeAnd_37 : decode cX10_concludeAnd 37 = .ok (.invokevirtual 219, 3) := by decide +kernel
theorem dX10_concludeAnd_40 : decode cX10_concludeAnd 40 = .ok (.aload_n 0, 1) := by decide +kernel
theorem dX10_concludeAnd_41 : decode cX10_concludeAnd 41 = .ok (.getfield 100, 3) := by decide +kernel
theorem dX10_concludeAnd_44 : decode cX10_concludeAnd 44 = .ok (.iconst 0, 1) := by decide +kernel
theorem dX10_concludeAnd_45 : decode cX10_concludeAnd 45 = .ok (.invokestatic 222, 3) := by decide +kernel
theorem dX10_concludeAnd_48 : decode cX10_concludeAnd 48 = .ok (.aload_n 0, 1) := by decide +kernel
theorem dX10_concludeAnd_49 : decode cX10_concludeAnd 49 = .ok (.getfield 100, 3) := by decide +kernel
theorem dX10_concludeAnd_52 : decode cX10_concludeAnd 52 = .ok (.iconst 0, 1) := by decide +kernel
theorem dX10_concludeAnd_53 : decode cX10_concludeAnd 53 = .ok (.aload_n 0, 1) := by decide +kernel
theorem dX10_concludeAnd_54 : decode cX10_concludeAnd 54 = .ok (.getfield 73, 3) := by decide +kernel
theorem dX10_concludeAnd_57 : decode cX10_concludeAnd 57 = .ok (.aload_n 0, 1) := by decide +kernel
theorem dX10_concludeAnd_58 : decode cX10_concludeAnd 58 = .ok (.iload_n 2, 1) := by decide +kernel
theorem dX10_concludeAnd_59 : decode cX10_concludeAnd 59 = .ok (.invokevirtual 219, 3) := by decide +kernel
theorem dX10_concludeAnd_62 : decode cX10_concludeAnd 62 = .ok (.invokestatic 309, 3) := by decide +kernel
theorem dX10_concludeAnd_65 : decode cX10_concludeAnd 65 = .ok (.aload_n 0, 1) := by decide +kernel
theorem dX10_concludeAnd_66 : decode cX10_concludeAnd 66 = .ok (.iload_n 1, 1) := by decide +kernel
theorem dX10_concludeAnd_67 : decode cX10_concludeAnd 67 = .ok (.aload_n 0, 1) := by decide +kernel
theorem dX10_concludeAnd_68 : decode cX10_concludeAnd 68 = .ok (.iload_n 3, 1) := by decide +kernel
theorem dX10_concludeAnd_69 : decode cX10_concludeAnd 69 = .ok (.invokevirtual 249, 3) := by decide +kernel
theorem dX10_concludeAnd_72 : decode cX10_concludeAnd 72 = .ok (.aload_n 0, 1) := by decide +kernel
theorem dX10_concludeAnd_73 : decode cX10_concludeAnd 73 = .ok (.getfield 73, 3) := by decide +kernel
theorem dX10_concludeAnd_76 : decode cX10_concludeAnd 76 = .ok (.aload_n 0, 1) := by decide +kernel
theorem dX10_concludeAnd_77 : decode cX10_concludeAnd 77 = .ok (.iload_n 2, 1) := by decide +kernel
theorem dX10_concludeAnd_78 : decode cX10_concludeAnd 78 = .ok (.invokevirtual 219, 3) := by decide +kernel
theorem dX10_concludeAnd_81 : decode cX10_concludeAnd 81 = .ok (.invokestatic 211, 3) := by decide +kernel
theorem dX10_concludeAnd_84 : decode cX10_concludeAnd 84 = .ok (.ifCond .eq 7, 3) := by decide +kernel
theorem dX10_concludeAnd_87 : decode cX10_concludeAnd 87 = .ok (.iconst 0, 1) := by decide +kernel
theorem dX10_concludeAnd_88 : decode cX10_concludeAnd 88 = .ok (.goto 4, 3) := by decide +kernel
theorem dX10_concludeAnd_91 : decode cX10_concludeAnd 91 = .ok (.iconst 4, 1) := by decide +kernel
theorem dX10_concludeAnd_92 : decode cX10_concludeAnd 92 = .ok (.ior, 1) := by decide +kernel
theorem dX10_concludeAnd_93 : decode cX10_concludeAnd 93 = .ok (.iconst (-1), 1) := by decide +kernel
theorem dX10_concludeAnd_94 : decode cX10_concludeAnd 94 = .ok (.invokevirtual 235, 3) := by decide +kernel
theorem dX10_concludeAnd_97 : decode cX10_concludeAnd 97 = .ok (.return_, 1) := by decide +kernel
set_option maxRecDepth 20000 in
set_option maxHeartbeats 4000000 in
theorem w_X10_concludeAnd {c : rX} {d : Nat} {S : rS} {K : Option Value → rS → Prop} (ho : rOK c) (p0 : Int32) (h : ∃ j1 : Nat, am_ix p0 j1 320 ∧ (∃ j3 : Nat, am_ix p0 j3 320 ∧ (rM c d eX10_five (.ref c.2.2.1 :: [.int (S.1 6 j3)]) S (fun v S5 => ∃ z6 : Int32, v = some (.int z6) ∧ (rM c d eX10_copy [.ref (c.2.2.1 + (18 + 1)), .int z6, .ref (c.2.2.1 + (27 + 1)), .int 0] S5 (fun v S7 => v = none ∧ (rM c d eX10_five (.ref c.2.2.1 :: [.int (S.1 6 j3)]) S7 (fun v S9 => ∃ z10 : Int32, v = some (.int z10) ∧ (rM c d eX10_copy [.ref (c.2.2.1 + (19 + 1)), .int z10, .ref (c.2.2.1 + (28 + 1)), .int 0] S9 (fun v S11 => v = none ∧ (rM c d eX10_five (.ref c.2.2.1 :: [.int (S.1 5 j1)]) S11 (fun v S13 => ∃ z14 : Int32, v = some (.int z14) ∧ (rM c d eX10_either [.ref (c.2.2.1 + (28 + 1)), .int 0, .ref (c.2.2.1 + (19 + 1)), .int z14] S13 (fun v S15 => v = none ∧ (rM c d eX10_typeOf (.ref c.2.2.1 :: [.int (S.1 6 j3)]) S15 (fun v S17 => ∃ z18 : Int32, v = some (.int z18) ∧ (rM c d eX10_five (.ref c.2.2.1 :: [.int (S.1 5 j1)]) S17 (fun v S19 => ∃ z20 : Int32, v = some (.int z20) ∧ (rM c d eX10_isImpossible [.ref (c.2.2.1 + (19 + 1)), .int z20] S19 (fun v S21 => ∃ z22 : Int32, v = some (.int z22) ∧ ((z22 = 0 → (rM c d eX10_finish (.ref c.2.2.1 :: [.int p0, .int (z18 ||| 4), .int (-1)]) S21 (fun v S24 => v = none ∧ (K none S24)))) ∧ (¬ z22 = 0 → (rM c d eX10_finish (.ref c.2.2.1 :: [.int p0, .int (z18 ||| 0), .int (-1)]) S21 (fun v S26 => v = none ∧ (K none S26))))))))))))))))))))))))) : rM c (d + 1) eX10_concludeAnd [.ref c.2.2.1, .int p0] S K := by
  refine rM.of (by decide) (Nat.le_of_ble_eq_true rfl) ?_
  show rG c eX10_concludeAnd (d + 1) (rQ c K) 0 [some (.ref c.2.2.1), some (.int p0), none, none] [] S
  refine ag_aload_n dX10_concludeAnd_0 rfl (Or.inr ⟨_, rfl⟩) ?_
  refine rr_get (v := .ref (c.2.2.1 + (2 + 1))) ho dX10_concludeAnd_1 fw_10_20 rfl ?_
  refine ag_iload_n dX10_concludeAnd_4 rfl ?_
  obtain ⟨j1, hj2, h⟩ := h
  refine rr_il (v := S.1 5 j1) ho dX10_concludeAnd_5 (k := 2) (f := 5) rfl hj2 rfl ?_
  refine ag_istore_n (lv2 := [some (.ref c.2.2.1), some (.int p0), some (.int (S.1 5 j1)), none]) dX10_concludeAnd_6 (Nat.le_of_ble_eq_true rfl) rfl ?_
  refine ag_aload_n dX10_concludeAnd_7 rfl (Or.inr ⟨_, rfl⟩) ?_
  refine rr_get (v := .ref (c.2.2.1 + (3 + 1))) ho dX10_concludeAnd_8 fw_10_23 rfl ?_
  refine ag_iload_n dX10_concludeAnd_11 rfl ?_
  obtain ⟨j3, hj4, h⟩ := h
  refine rr_il (v := S.1 6 j3) ho dX10_concludeAnd_12 (k := 3) (f := 6) rfl hj4 rfl ?_
  refine ag_istore_n (lv2 := [some (.ref c.2.2.1), some (.int p0), some (.int (S.1 5 j1)), some (.int (S.1 6 j3))]) dX10_concludeAnd_13 (Nat.le_of_ble_eq_true rfl) rfl ?_
  refine ag_aload_n dX10_concludeAnd_14 rfl (Or.inr ⟨_, rfl⟩) ?_
  refine rr_get (v := .ref (c.2.2.1 + (18 + 1))) ho dX10_concludeAnd_15 fw_10_70 rfl ?_
  refine ag_aload_n dX10_concludeAnd_18 rfl (Or.inr ⟨_, rfl⟩) ?_
  refine ag_iload_n dX10_concludeAnd_19 rfl ?_
  refine rr_call (as := [.int (S.1 6 j3)]) (rest := [.ref (c.2.2.1 + (18 + 1))]) ho dX10_concludeAnd_20 me_X10_five mi_X10_five lk_10_219 rfl rfl (Nat.le_of_ble_eq_true rfl) ?_
  refine rM.mono h ?_
  rintro v S5 ⟨z6, rfl, h⟩
  show rG _ _ _ _ _ _ [.int z6, .ref (c.2.2.1 + (18 + 1))] _
  refine ag_aload_n dX10_concludeAnd_23 rfl (Or.inr ⟨_, rfl⟩) ?_
  refine rr_get (v := .ref (c.2.2.1 + (27 + 1))) ho dX10_concludeAnd_24 fw_10_97 rfl ?_
  refine ag_iconst (v := 0) dX10_concludeAnd_27 rfl ?_
  refine rr_calls (as := [.ref (c.2.2.1 + (18 + 1)), .int z6, .ref (c.2.2.1 + (27 + 1)), .int 0]) (rest := []) dX10_concludeAnd_28 me_X10_copy ms_X10_copy lk_10_222 rfl rfl (Nat.le_of_ble_eq_true rfl) ?_
  refine rM.mono h ?_
  rintro v S7 ⟨rfl, h⟩
  show rG _ _ _ _ _ _ [] _
  refine ag_aload_n dX10_concludeAnd_31 rfl (Or.inr ⟨_, rfl⟩) ?_
  refine rr_get (v := .ref (c.2.2.1 + (19 + 1))) ho dX10_concludeAnd_32 fw_10_73 rfl ?_
  refine ag_aload_n dX10_concludeAnd_35 rfl (Or.inr ⟨_, rfl⟩) ?_
  refine ag_iload_n dX10_concludeAnd_36 rfl ?_
  refine rr_call (as := [.int (S.1 6 j3)]) (rest := [.ref (c.2.2.1 + (19 + 1))]) ho dX10_concludeAnd_37 me_X10_five mi_X10_five lk_10_219 rfl rfl (Nat.le_of_ble_eq_true rfl) ?_
  refine rM.mono h ?_
  rintro v S9 ⟨z10, rfl, h⟩
  show rG _ _ _ _ _ _ [.int z10, .ref (c.2.2.1 + (19 + 1))] _
  refine ag_aload_n dX10_concludeAnd_40 rfl (Or.inr ⟨_, rfl⟩) ?_
  refine rr_get (v := .ref (c.2.2.1 + (28 + 1))) ho dX10_concludeAnd_41 fw_10_100 rfl ?_
  refine ag_iconst (v := 0) dX10_concludeAnd_44 rfl ?_
  refine rr_calls (as := [.ref (c.2.2.1 + (19 + 1)), .int z10, .ref (c.2.2.1 + (28 + 1)), .int 0]) (rest := []) dX10_concludeAnd_45 me_X10_copy ms_X10_copy lk_10_222 rfl rfl (Nat.le_of_ble_eq_true rfl) ?_
  refine rM.mono h ?_
  rintro v S11 ⟨rfl, h⟩
  show rG _ _ _ _ _ _ [] _
  refine ag_aload_n dX10_concludeAnd_48 rfl (Or.inr ⟨_, rfl⟩) ?_
  refine rr_get (v := .ref (c.2.2.1 + (28 + 1))) ho dX10_concludeAnd_49 fw_10_100 rfl ?_
  refine ag_iconst (v := 0) dX10_concludeAnd_52 rfl ?_
  refine ag_aload_n dX10_concludeAnd_53 rfl (Or.inr ⟨_, rfl⟩) ?_
  refine rr_get (v := .ref (c.2.2.1 + (19 + 1))) ho dX10_concludeAnd_54 fw_10_73 rfl ?_
  refine ag_aload_n dX10_concludeAnd_57 rfl (Or.inr ⟨_, rfl⟩) ?_
  refine ag_iload_n dX10_concludeAnd_58 rfl ?_
  refine rr_call (as := [.int (S.1 5 j1)]) (rest := [.ref (c.2.2.1 + (19 + 1)), .int 0, .ref (c.2.2.1 + (28 + 1))]) ho dX10_concludeAnd_59 me_X10_five mi_X10_five lk_10_219 rfl rfl (Nat.le_of_ble_eq_true rfl) ?_
  refine rM.mono h ?_
  rintro v S13 ⟨z14, rfl, h⟩
  show rG _ _ _ _ _ _ [.int z14, .ref (c.2.2.1 + (19 + 1)), .int 0, .ref (c.2.2.1 + (28 + 1))] _
  refine rr_calls (as := [.ref (c.2.2.1 + (28 + 1)), .int 0, .ref (c.2.2.1 + (19 + 1)), .int z14]) (rest := []) dX10_concludeAnd_62 me_X10_either ms_X10_either lk_10_309 rfl rfl (Nat.le_of_ble_eq_true rfl) ?_
  refine rM.mono h ?_
  rintro v S15 ⟨rfl, h⟩
  show rG _ _ _ _ _ _ [] _
  refine ag_aload_n dX10_concludeAnd_65 rfl (Or.inr ⟨_, rfl⟩) ?_
  refine ag_iload_n dX10_concludeAnd_66 rfl ?_
  refine ag_aload_n dX10_concludeAnd_67 rfl (Or.inr ⟨_, rfl⟩) ?_
  refine ag_iload_n dX10_concludeAnd_68 rfl ?_
  refine rr_call (as := [.int (S.1 6 j3)]) (rest := [.int p0, .ref c.2.2.1]) ho dX10_concludeAnd_69 me_X10_typeOf mi_X10_typeOf lk_10_249 rfl rfl (Nat.le_of_ble_eq_true rfl) ?_
  refine rM.mono h ?_
  rintro v S17 ⟨z18, rfl, h⟩
  show rG _ _ _ _ _ _ [.int z18, .int p0, .ref c.2.2.1] _
  refine ag_aload_n dX10_concludeAnd_72 rfl (Or.inr ⟨_, rfl⟩) ?_
  refine rr_get (v := .ref (c.2.2.1 + (19 + 1))) ho dX10_concludeAnd_73 fw_10_73 rfl ?_
  refine ag_aload_n dX10_concludeAnd_76 rfl (Or.inr ⟨_, rfl⟩) ?_
  refine ag_iload_n dX10_concludeAnd_77 rfl ?_
  refine rr_call (as := [.int (S.1 5 j1)]) (rest := [.ref (c.2.2.1 + (19 + 1)), .int z18, .int p0, .ref c.2.2.1]) ho dX10_concludeAnd_78 me_X10_five mi_X10_five lk_10_219 rfl rfl (Nat.le_of_ble_eq_true rfl) ?_
  refine rM.mono h ?_
  rintro v S19 ⟨z20, rfl, h⟩
  show rG _ _ _ _ _ _ [.int z20, .ref (c.2.2.1 + (19 + 1)), .int z18, .int p0, .ref c.2.2.1] _
  refine rr_calls (as := [.ref (c.2.2.1 + (19 + 1)), .int z20]) (rest := [.int z18, .int p0, .ref c.2.2.1]) dX10_concludeAnd_81 me_X10_isImpossible ms_X10_isImpossible lk_10_211 rfl rfl (Nat.le_of_ble_eq_true rfl) ?_
  refine rM.mono h ?_
  rintro v S21 ⟨z22, rfl, h⟩
  show rG _ _ _ _ _ _ [.int z22, .int z18, .int p0, .ref c.2.2.1] _
  refine ag_if_eq (tgt := 91) dX10_concludeAnd_84 rfl (fun hc23 => ?_) (fun hc23 => ?_)
  · have h := h.1 hc23
    refine ag_iconst (v := 4) dX10_concludeAnd_91 rfl ?_
    refine ag_ior dX10_concludeAnd_92 rfl ?_
    refine ag_iconst (v := (-1)) dX10_concludeAnd_93 rfl ?_
    refine rr_call (as := [.int p0, .int (z18 ||| 4), .int (-1)]) (rest := []) ho dX10_concludeAnd_94 me_X10_finish mi_X10_finish lk_10_235 rfl rfl (Nat.le_of_ble_eq_true rfl) ?_
    refine rM.mono h ?_
    rintro v S24 ⟨rfl, h⟩
    show rG _ _ _ _ _ _ [] _
    exact ag_ret (v := none) dX10_concludeAnd_97 rfl ⟨_, rfl, _, rfl, h⟩ rfl
  · have h := h.2 hc23
    refine ag_iconst (v := 0) dX10_concludeAnd_87 rfl ?_
    refine ag_goto (tgt := 92) dX10_concludeAnd_88 rfl ?_
    refine ag_ior dX10_concludeAnd_92 rfl ?_
    refine ag_iconst (v := (-1)) dX10_concludeAnd_93 rfl ?_
    refine rr_call (as := [.int p0, .int (z18 ||| 0), .int (-1)]) (rest := []) ho dX10_concludeAnd_94 me_X10_finish mi_X10_finish lk_10_235 rfl rfl (Nat.le_of_ble_eq_true rfl) ?_
    refine rM.mono h ?_
    rintro v S26 ⟨rfl, h⟩
    show rG _ _ _ _ _ _ [] _
    exact ag_ret (v := none) dX10_concludeAnd_97 rfl ⟨_, rfl, _, rfl, h⟩ rfl
theorem dX10_concludeOr_0 : decode cX10_concludeOr 0 = .ok (.aload_n 0, 1) := by decide +kernel
theorem dX10_concludeOr_1 : decode cX10_concludeOr 1 = .ok (.getfield 20, 3) := by decide +kernel
theorem dX10_concludeOr_4 : decode cX10_concludeOr 4 = .ok (.iload_n 1, 1) := by decide +kernel
theorem dX10_concludeOr_5 : decode cX10_concludeOr 5 = .ok (.iaload, 1) := by decide +kernel
theorem dX10_concludeOr_6 : decode cX10_concludeOr 6 = .ok (.istore_n 2, 1) := by decide +kernel
theorem dX10_concludeOr_7 : decode cX10_concludeOr 7 = .ok (.aload_n 0, 1) := by decide +kernel
theorem dX10_concludeOr_8 : decode cX10_concludeOr 8 = .ok (.getfield 23, 3) := by decide +kernel
theorem dX10_concludeOr_11 : decode cX10_concludeOr 11 = .ok (.iload_n 1, 1) := by decide +kernel
theorem dX10_concludeOr_12 : decode cX10_concludeOr 12 = .ok (.iaload, 1) := by decide +kernel
theorem dX10_concludeOr_13 : decode cX10_concludeOr 13 = .ok (.istore_n 3, 1) := by decide +kernel
theorem dX10_concludeOr_14 : decode cX10_concludeOr 14 = .ok (.aload_n 0, 1) := by decide +kernel
theorem dX10_concludeOr_15 : decode cX10_concludeOr 15 = .ok (.getfield 70, 3) := by decide +kernel
theorem dX10_concludeOr_18 : decode cX10_concludeOr 18 = .ok (.aload_n 0, 1) := by decide +kernel
theorem dX10_concludeOr_19 : decode cX10_concludeOr 19 = .ok (.iload_n 2, 1) := by decide +kernel
theorem dX10_concludeOr_20 : decode cX10_concludeOr 20 = .ok (.invokevirtual 219, 3) := by decide +kernel
theorem dX10_concludeOr_23 : decode cX10_concludeOr 23 = .ok (.aload_n 0, 1) := by decide +kernel
theorem dX10_concludeOr_24 : decode cX10_concludeOr 24 = .ok (.getfield 97, 3) := by decide +kernel
theorem dX10_concludeOr_27 : decode cX10_concludeOr 27 = .ok (.iconst 0, 1) := by decide +kernel
theorem dX10_concludeOr_28 : decode cX10_concludeOr 28 = .ok (.invokestatic 222, 3) := by decide +kernel
theorem dX10_concludeOr_31 : decode cX10_concludeOr 31 = .ok (.aload_n 0, 1) := by decide +kernel
theorem dX10_concludeOr_32 : decode cX10_concludeOr 32 = .ok (.getfield 97, 3) := by decide +kernel
theorem dX10_concludeOr_35 : decode cX10_concludeOr 35 = .ok (.iconst 0, 1) := by decide +kernel
theorem dX10_concludeOr_36 : decode cX10_concludeOr 36 = .ok (.aload_n 0, 1) := by decide +kernel
theorem dX10_concludeOr_37 : decode cX10_concludeOr 37 = .ok (.getfield 70, 3) := by decide +kernel
theorem dX10_concludeOr_40 : decode cX10_concludeOr 40 = .ok (.aload_n 0, 1) := by decide +kernel
theorem dX10_concludeOr_41 : decode cX10_concludeOr 41 = .ok (.iload_n 3, 1) := by decide +kernel
theorem dX10_concludeOr_42 : decode cX10_concludeOr 42 = .ok (.invokevirtual 219, 3) := by decide +kernel
theorem dX10_concludeOr_45 : decode cX10_concludeOr 45 = .ok (.invokestatic 309, 3) := by decide +kernel
theorem dX10_concludeOr_48 : decode cX10_concludeOr 48 = .ok (.aload_n 0, 1) := by decide +kernel
theorem dX10_concludeOr_49 : decode cX10_concludeOr 49 = .ok (.getfield 73, 3) := by decide +kernel
theorem dX10_concludeOr_52 : decode cX10_concludeOr 52 = .ok (.aload_n 0, 1) := by decide +kernel
theorem dX10_concludeOr_53 : decode cX10_concludeOr 53 = .ok (.iload_n 3, 1) := by decide +kernel
theorem dX10_concludeOr_54 : decode cX10_concludeOr 54 = .ok (.invokevirtual 219, 3) := by decide +kernel
theorem dX10_concludeOr_57 : decode cX10_concludeOr 57 = .ok (.aload_n 0, 1) := by decide +kernel
theorem dX10_concludeOr_58 : decode cX10_concludeOr 58 = .ok (.getfield 100, 3) := by decide +kernel
theorem dX10_concludeOr_61 : decode cX10_concludeOr 61 = .ok (.iconst 0, 1) := by decide +kernel
theorem dX10_concludeOr_62 : decode cX10_concludeOr 62 = .ok (.invokestatic 222, 3) := by decide +kernel
theorem dX10_concludeOr_65 : decode cX10_concludeOr 65 = .ok (.aload_n 0, 1) := by decide +kernel
theorem dX10_concludeOr_66 : decode cX10_concludeOr 66 = .ok (.iload_n 1, 1) := by decide +kernel
theorem dX10_concludeOr_67 : decode cX10_concludeOr 67 = .ok (.aload_n 0, 1) := by decide +kernel
theorem dX10_concludeOr_68 : decode cX10_concludeOr 68 = .ok (.iload_n 2, 1) := by decide +kernel
theorem dX10_concludeOr_69 : decode cX10_concludeOr 69 = .ok (.invokevirtual 249, 3) := by decide +kernel
theorem dX10_concludeOr_72 : decode cX10_concludeOr 72 = .ok (.bipush (-5), 2) := by decide +kernel
theorem dX10_concludeOr_74 : decode cX10_concludeOr 74 = .ok (.iand, 1) := by decide +kernel
theorem dX10_concludeOr_75 : decode cX10_concludeOr 75 = .ok (.aload_n 0, 1) := by decide +kernel
theorem dX10_concludeOr_76 : decode cX10_concludeOr 76 = .ok (.iload_n 3, 1) := by decide +kernel
theorem dX10_concludeOr_77 : decode cX10_concludeOr 77 = .ok (.invokevirtual 249, 3) := by decide +kernel
theorem dX10_concludeOr_80 : decode cX10_concludeOr 80 = .ok (.ior, 1) := by decide +kernel
theorem dX10_concludeOr_81 : decode cX10_concludeOr 81 = .ok (.iconst (-1), 1) := by decide +kernel
theorem dX10_concludeOr_82 : decode cX10_concludeOr 82 = .ok (.invokevirtual 235, 3) := by decide +kernel
theorem dX10_concludeOr_85 : decode cX10_concludeOr 85 = .ok (.return_, 1) := by decide +kernel
set_option maxRecDepth 20000 in
set_option maxHeartbeats 4000000 in
theorem w_X10_concludeOr {c : rX} {d : Nat} {S : rS} {K : Option Value → rS → Prop} (ho : rOK c) (p0 : Int32) (h : ∃ j1 : Nat, am_ix p0 j1 320 ∧ (∃ j3 : Nat, am_ix p0 j3 320 ∧ (rM c d eX10_five (.ref c.2.2.1 :: [.int (S.1 5 j1)]) S (fun v S5 => ∃ z6 : Int32, v = some (.int z6) ∧ (rM c d eX10_copy [.ref (c.2.2.1 + (18 + 1)), .int z6, .ref (c.2.2.1 + (27 + 1)), .int 0] S5 (fun v S7 => v = none ∧ (rM c d eX10_five (.ref c.2.2.1 :: [.int (S.1 6 j3)]) S7 (fun v S9 => ∃ z10 : Int32, v = some (.int z10) ∧ (rM c d eX10_either [.ref (c.2.2.1 + (27 + 1)), .int 0, .ref (c.2.2.1 + (18 + 1)), .int z10] S9 (fun v S11 => v = none ∧ (rM c d eX10_five (.ref c.2.2.1 :: [.int (S.1 6 j3)]) S11 (fun v S13 => ∃ z14 : Int32, v = some (.int z14) ∧ (rM c d eX10_copy [.ref (c.2.2.1 + (19 + 1)), .int z14, .ref (c.2.2.1 + (28 + 1)), .int 0] S13 (fun v S15 => v = none ∧ (rM c d eX10_typeOf (.ref c.2.2.1 :: [.int (S.1 5 j1)]) S15 (fun v S17 => ∃ z18 : Int32, v = some (.int z18) ∧ (rM c d eX10_typeOf (.ref c.2.2.1 :: [.int (S.1 6 j3)]) S17 (fun v S19 => ∃ z20 : Int32, v = some (.int z20) ∧ (rM c d eX10_finish (.ref c.2.2.1 :: [.int p0, .int ((z18 &&& (-5)) ||| z20), .int (-1)]) S19 (fun v S21 => v = none ∧ (K none S21))))))))))))))))))))) : rM c (d + 1) eX10_concludeOr [.ref c.2.2.1, .int p0] S K := by
  refine rM.of (by decide) (Nat.le_of_ble_eq_true rfl) ?_
  show rG c eX10_concludeOr (d + 1) (rQ c K) 0 [some (.ref c.2.2.1), some (.int p0), none, none] [] S
  refine ag_aload_n dX10_concludeOr_0 rfl (Or.inr ⟨_, rfl⟩) ?_
  refine rr_get (v := .ref (c.2.2.1 + (2 + 1))) ho dX10_concludeOr_1 fw_10_20 rfl ?_
  refine ag_iload_n dX10_concludeOr_4 rfl ?_
  obtain ⟨j1, hj2, h⟩ := h
  refine rr_il (v := S.1 5 j1) ho dX10_concludeOr_5 (k := 2) (f := 5) rfl hj2 rfl ?_
  refine ag_istore_n (lv2 := [some (.ref c.2.2.1), some (.int p0), some (.int (S.1 5 j1)), none]) dX10_concludeOr_6 (Nat.le_of_ble_eq_true rfl) rfl ?_
  refine ag_aload_n dX10_concludeOr_7 rfl (Or.inr ⟨_, rfl⟩) ?_
  refine rr_get (v := .ref (c.2.2.1 + (3 + 1))) ho dX10_concludeOr_8 fw_10_23 rfl ?_
  refine ag_iload_n dX10_concludeOr_11 rfl ?_
  obtain ⟨j3, hj4, h⟩ := h
  refine rr_il (v := S.1 6 j3) ho dX10_concludeOr_12 (k := 3) (f := 6) rfl hj4 rfl ?_
  refine ag_istore_n (lv2 := [some (.ref c.2.2.1), some (.int p0), some (.int (S.1 5 j1)), some (.int (S.1 6 j3))]) dX10_concludeOr_13 (Nat.le_of_ble_eq_true rfl) rfl ?_
  refine ag_aload_n dX10_concludeOr_14 rfl (Or.inr ⟨_, rfl⟩) ?_
  refine rr_get (v := .ref (c.2.2.1 + (18 + 1))) ho dX10_concludeOr_15 fw_10_70 rfl ?_
  refine ag_aload_n dX10_concludeOr_18 rfl (Or.inr ⟨_, rfl⟩) ?_
  refine ag_iload_n dX10_concludeOr_19 rfl ?_
  refine rr_call (as := [.int (S.1 5 j1)]) (rest := [.ref (c.2.2.1 + (18 + 1))]) ho dX10_concludeOr_20 me_X10_five mi_X10_five lk_10_219 rfl rfl (Nat.le_of_ble_eq_true rfl) ?_
  refine rM.mono h ?_
  rintro v S5 ⟨z6, rfl, h⟩
  show rG _ _ _ _ _ _ [.int z6, .ref (c.2.2.1 + (18 + 1))] _
  refine ag_aload_n dX10_concludeOr_23 rfl (Or.inr ⟨_, rfl⟩) ?_
  refine rr_get (v := .ref (c.2.2.1 + (27 + 1))) ho dX10_concludeOr_24 fw_10_97 rfl ?_
  refine ag_iconst (v := 0) dX10_concludeOr_27 rfl ?_
  refine rr_calls (as := [.ref (c.2.2.1 + (18 + 1)), .int z6, .ref (c.2.2.1 + (27 + 1)), .int 0]) (rest := []) dX10_concludeOr_28 me_X10_copy ms_X10_copy lk_10_222 rfl rfl (Nat.le_of_ble_eq_true rfl) ?_
  refine rM.mono h ?_
  rintro v S7 ⟨rfl, h⟩
  show rG _ _ _ _ _ _ [] _
  refine ag_aload_n dX10_concludeOr_31 rfl (Or.inr ⟨_, rfl⟩) ?_
  refine rr_get (v := .ref (c.2.2.1 + (27 + 1))) ho dX10_concludeOr_32 fw_10_97 rfl ?_
  refine ag_iconst (v := 0) dX10_concludeOr_35 rfl ?_
  refine ag_aload_n dX10_concludeOr_36 rfl (Or.inr ⟨_, rfl⟩) ?_
  refine rr_get (v := .ref (c.2.2.1 + (18 + 1))) ho dX10_concludeOr_37 fw_10_70 rfl ?_
  refine ag_aload_n dX10_concludeOr_40 rfl (Or.inr ⟨_, rfl⟩) ?_
  refine ag_iload_n dX10_concludeOr_41 rfl ?_
  refine rr_call (as := [.int (S.1 6 j3)]) (rest := [.ref (c.2.2.1 + (18 + 1)), .int 0, .ref (c.2.2.1 + (27 + 1))]) ho dX10_concludeOr_42 me_X10_five mi_X10_five lk_10_219 rfl rfl (Nat.le_of_ble_eq_true rfl) ?_
  refine rM.mono h ?_
  rintro v S9 ⟨z10, rfl, h⟩
  show rG _ _ _ _ _ _ [.int z10, .ref (c.2.2.1 + (18 + 1)), .int 0, .ref (c.2.2.1 + (27 + 1))] _
  refine rr_calls (as := [.ref (c.2.2.1 + (27 + 1)), .int 0, .ref (c.2.2.1 + (18 + 1)), .int z10]) (rest := []) dX10_concludeOr_45 me_X10_either ms_X10_either lk_10_309 rfl rfl (Nat.le_of_ble_eq_true rfl) ?_
  refine rM.mono h ?_
  rintro v S11 ⟨rfl, h⟩
  show rG _ _ _ _ _ _ [] _
  refine ag_aload_n dX10_concludeOr_48 rfl (Or.inr ⟨_, rfl⟩) ?_
  refine rr_get (v := .ref (c.2.2.1 + (19 + 1))) ho dX10_concludeOr_49 fw_10_73 rfl ?_
  refine ag_aload_n dX10_concludeOr_52 rfl (Or.inr ⟨_, rfl⟩) ?_
  refine ag_iload_n dX10_concludeOr_53 rfl ?_
  refine rr_call (as := [.int (S.1 6 j3)]) (rest := [.ref (c.2.2.1 + (19 + 1))]) ho dX10_concludeOr_54 me_X10_five mi_X10_five lk_10_219 rfl rfl (Nat.le_of_ble_eq_true rfl) ?_
  refine rM.mono h ?_
  rintro v S13 ⟨z14, rfl, h⟩
  show rG _ _ _ _ _ _ [.int z14, .ref (c.2.2.1 + (19 + 1))] _
  refine ag_aload_n dX10_concludeOr_57 rfl (Or.inr ⟨_, rfl⟩) ?_
  refine rr_get (v := .ref (c.2.2.1 + (28 + 1))) ho dX10_concludeOr_58 fw_10_100 rfl ?_
  refine ag_iconst (v := 0) dX10_concludeOr_61 rfl ?_
  refine rr_calls (as := [.ref (c.2.2.1 + (19 + 1)), .int z14, .ref (c.2.2.1 + (28 + 1)), .int 0]) (rest := []) dX10_concludeOr_62 me_X10_copy ms_X10_copy lk_10_222 rfl rfl (Nat.le_of_ble_eq_true rfl) ?_
  refine rM.mono h ?_
  rintro v S15 ⟨rfl, h⟩
  show rG _ _ _ _ _ _ [] _
  refine ag_aload_n dX10_concludeOr_65 rfl (Or.inr ⟨_, rfl⟩) ?_
  refine ag_iload_n dX10_concludeOr_66 rfl ?_
  refine ag_aload_n dX10_concludeOr_67 rfl (Or.inr ⟨_, rfl⟩) ?_
  refine ag_iload_n dX10_concludeOr_68 rfl ?_
  refine rr_call (as := [.int (S.1 5 j1)]) (rest := [.int p0, .ref c.2.2.1]) ho dX10_concludeOr_69 me_X10_typeOf mi_X10_typeOf lk_10_249 rfl rfl (Nat.le_of_ble_eq_true rfl) ?_
  refine rM.mono h ?_
  rintro v S17 ⟨z18, rfl, h⟩
  show rG _ _ _ _ _ _ [.int z18, .int p0, .ref c.2.2.1] _
  refine ag_bipush (v := (-5)) dX10_concludeOr_72 (by decide) ?_
  refine ag_iand dX10_concludeOr_74 rfl ?_
  refine ag_aload_n dX10_concludeOr_75 rfl (Or.inr ⟨_, rfl⟩) ?_
  refine ag_iload_n dX10_concludeOr_76 rfl ?_
  refine rr_call (as := [.int (S.1 6 j3)]) (rest := [.int (z18 &&& (-5)), .int p0, .ref c.2.2.1]) ho dX10_concludeOr_77 me_X10_typeOf mi_X10_typeOf lk_10_249 rfl rfl (Nat.le_of_ble_eq_true rfl) ?_
  refine rM.mono h ?_
  rintro v S19 ⟨z20, rfl, h⟩
  show rG _ _ _ _ _ _ [.int z20, .int (z18 &&& (-5)), .int p0, .ref c.2.2.1] _
  refine ag_ior dX10_concludeOr_80 rfl ?_
  refine ag_iconst (v := (-1)) dX10_concludeOr_81 rfl ?_
  refine rr_call (as := [.int p0, .int ((z18 &&& (-5)) ||| z20), .int (-1)]) (rest := []) ho dX10_concludeOr_82 me_X10_finish mi_X10_finish lk_10_235 rfl rfl (Nat.le_of_ble_eq_true rfl) ?_
  refine rM.mono h ?_
  rintro v S21 ⟨rfl, h⟩
  show rG _ _ _ _ _ _ [] _
  exact ag_ret (v := none) dX10_concludeOr_85 rfl ⟨_, rfl, _, rfl, h⟩ rfl
theorem dX10_drop_0 : decode cX10_drop 0 = .ok (.aload_n 0, 1) := by decide +kernel
theorem dX10_drop_1 : decode cX10_drop 1 = .ok (.iconst 0, 1) := by decide +kernel
theorem dX10_drop_2 : decode cX10_drop 2 = .ok (.invokestatic 211, 3) := by decide +kernel
theorem dX10_drop_5 : decode cX10_drop 5 = .ok (.ifCond .eq 4, 3) := by decide +kernel
theorem dX10_drop_8 : decode cX10_drop 8 = .ok (.return_, 1) := by decide +kernel
theorem dX10_drop_9 : decode cX10_drop 9 = .ok (.iconst 0, 1) := by decide +kernel
theorem dX10_drop_10 : decode cX10_drop 10 = .ok (.istore_n 2, 1) := by decide +kernel
theorem dX10_drop_11 : decode cX10_drop 11 = .ok (.iload_n 2, 1) := by decide +kernel
theorem dX10_drop_12 : decode cX10_drop 12 = .ok (.bipush 7, 2) := by decide +kernel
theorem dX10_drop_14 : decode cX10_drop 14 = .ok (.if_icmp .ge 22, 3) := by decide +kernel
theorem dX10_drop_17 : decode cX10_drop 17 = .ok (.aload_n 0, 1) := by decide +kernel
theorem dX10_drop_18 : decode cX10_drop 18 = .ok (.iconst 0, 1) := by decide +kernel
theorem dX10_drop_19 : decode cX10_drop 19 = .ok (.bipush 7, 2) := by decide +kernel
theorem dX10_drop_21 : decode cX10_drop 21 = .ok (.iload_n 1, 1) := by decide +kernel
theorem dX10_drop_22 : decode cX10_drop 22 = .ok (.imul, 1) := by decide +kernel
theorem dX10_drop_23 : decode cX10_drop 23 = .ok (.iload_n 2, 1) := by decide +kernel
theorem dX10_drop_24 : decode cX10_drop 24 = .ok (.iadd, 1) := by decide +kernel
theorem dX10_drop_25 : decode cX10_drop 25 = .ok (.bipush 31, 2) := by decide +kernel
theorem dX10_drop_27 : decode cX10_drop 27 = .ok (.invokestatic 252, 3) := by decide +kernel
theorem dX10_drop_30 : decode cX10_drop 30 = .ok (.iinc 2 1, 3) := by decide +kernel
theorem dX10_drop_33 : decode cX10_drop 33 = .ok (.goto (-22), 3) := by decide +kernel
theorem dX10_drop_36 : decode cX10_drop 36 = .ok (.return_, 1) := by decide +kernel
set_option maxRecDepth 20000 in
set_option maxHeartbeats 4000000 in
theorem w_X10_drop {c : rX} {d : Nat} {S : rS} {K : Option Value → rS → Prop} (ho : rOK c) {kp0 fp0 np0 : Nat} (hp0 : rT[kp0]? = some (fp0, 21, np0)) (p1 : Int32) (h : rM c d eX10_isImpossible [.ref (c.2.2.1 + (kp0 + 1)), .int 0] S (fun v S1 => ∃ z2 : Int32, v = some (.int z2) ∧ ((z2 = 0 → (rG c eX10_drop (d + 1) (rQ c K) 11 [some (.ref (c.2.2.1 + (kp0 + 1))), some (.int p1), some (.int 0)] [] S1)) ∧ (¬ z2 = 0 → (K none S1))))) : rM c (d + 1) eX10_drop [.ref (c.2.2.1 + (kp0 + 1)), .int p1] S K := by
  refine rM.of (by decide) (Nat.le_of_ble_eq_true rfl) ?_
  show rG c eX10_drop (d + 1) (rQ c K) 0 [some (.ref (c.2.2.1 + (kp0 + 1))), some (.int p1), none] [] S
  refine ag_aload_n dX10_drop_0 rfl (Or.inr ⟨_, rfl⟩) ?_
  refine ag_iconst (v := 0) dX10_drop_1 rfl ?_
  refine rr_calls (as := [.ref (c.2.2.1 + (kp0 + 1)), .int 0]) (rest := []) dX10_drop_2 me_X10_isImpossible ms_X10_isImpossible lk_10_211 rfl rfl (Nat.le_of_ble_eq_true rfl) ?_
  refine rM.mono h ?_
  rintro v S1 ⟨z2, rfl, h⟩
  show rG _ _ _ _ _ _ [.int z2] _
  refine ag_if_eq (tgt := 9) dX10_drop_5 rfl (fun hc3 => ?_) (fun hc3 => ?_)
  · have h := h.1 hc3
    refine ag_iconst (v := 0) dX10_drop_9 rfl ?_
    refine ag_istore_n (lv2 := [some (.ref (c.2.2.1 + (kp0 + 1))), some (.int p1), some (.int 0)]) dX10_drop_10 (Nat.le_of_ble_eq_true rfl) rfl ?_
    exact h
  · have h := h.2 hc3
    exact ag_ret (v := none) dX10_drop_8 rfl ⟨_, rfl, _, rfl, h⟩ rfl
set_option maxRecDepth 20000 in
set_option maxHeartbeats 4000000 in
theorem w_X10_drop_11 {c : rX} {d : Nat} {S : rS} {K : Option Value → rS → Prop} (ho : rOK c) {kp0 fp0 np0 : Nat} (hp0 : rT[kp0]? = some (fp0, 21, np0)) (v1 : Int32) (v2 : Int32) (h : (7 ≤ v2 → (K none S)) ∧ (¬ 7 ≤ v2 → (rM c d eX10_say [.ref (c.2.2.1 + (kp0 + 1)), .int 0, .int ((7 * v1) + v2), .int 31] S (fun v S2 => v = none ∧ (rG c eX10_drop (d + 1) (rQ c K) 11 [some (.ref (c.2.2.1 + (kp0 + 1))), some (.int v1), some (.int (v2 + 1))] [] S2))))) : rG c eX10_drop (d + 1) (rQ c K) 11 [some (.ref (c.2.2.1 + (kp0 + 1))), some (.int v1), some (.int v2)] [] S := by
  refine ag_iload_n dX10_drop_11 rfl ?_
  refine ag_bipush (v := 7) dX10_drop_12 (by decide) ?_
  refine ag_icmp_ge (tgt := 36) dX10_drop_14 rfl (fun hc1 => ?_) (fun hc1 => ?_)
  · have h := h.1 hc1
    exact ag_ret (v := none) dX10_drop_36 rfl ⟨_, rfl, _, rfl, h⟩ rfl
  · have h := h.2 hc1
    refine ag_aload_n dX10_drop_17 rfl (Or.inr ⟨_, rfl⟩) ?_
    refine ag_iconst (v := 0) dX10_drop_18 rfl ?_
    refine ag_bipush (v := 7) dX10_drop_19 (by decide) ?_
    refine ag_iload_n dX10_drop_21 rfl ?_
    refine ag_imul dX10_drop_22 rfl ?_
    refine ag_iload_n dX10_drop_23 rfl ?_
    refine ag_iadd dX10_drop_24 rfl ?_
    refine ag_bipush (v := 31) dX10_drop_25 (by decide) ?_
    refine rr_calls (as := [.ref (c.2.2.1 + (kp0 + 1)), .int 0, .int ((7 * v1) + v2), .int 31]) (rest := []) dX10_drop_27 me_X10_say ms_X10_say lk_10_252 rfl rfl (Nat.le_of_ble_eq_true rfl) ?_
    refine rM.mono h ?_
    rintro v S2 ⟨rfl, h⟩
    show rG _ _ _ _ _ _ [] _
    refine ag_iinc (v2 := (v2 + 1)) (lv2 := [some (.ref (c.2.2.1 + (kp0 + 1))), some (.int v1), some (.int (v2 + 1))]) dX10_drop_30 rfl rfl rfl ?_
    refine ag_goto (tgt := 11) dX10_drop_33 rfl ?_
    exact h
