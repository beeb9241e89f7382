/-! Rows for arrays, and for new cells. -/
section AI
variable {g : am_P} {l : Launch} {e : am_E} {d : Nat} {Q : am_R → am_H → Prop} {pc : Nat} {lv : am_L} {st : List Value} {h : am_H}
theorem am_arr {U : State} {H : Heap} {a t n : Nat} {f : Nat → Value} {ty : FieldType} (hh : am_hold g U h H) (ha : a < h.1) (hc : h.2.2 a = (t, n, f)) (ht : am_aty t = some ty) : ∃ cell : Cell, H[am_ad g a]? = some cell ∧ U.isArrayOf cell ty ∧ cell.vm ≠ .unknown ∧ cell.slots.size = n ∧ n < 2 ^ 31 ∧ (∀ j : Nat, j < n → cell.slots[j]? = some (am_tv g (f j))) ∧ am_ra U cell.cls ty := by
  have h1 := (hh.2.2.2 a ha).2 ty
  rw [hc] at h1
  exact h1 ht
theorem am_in {cell : Cell} {i : Int32} {j n : Nat} (hi : am_ix i j n) (hs : cell.slots.size = n) : ¬ (i < 0 ∨ cell.slots.size ≤ i.toNatClampNeg) := by
  obtain ⟨h1, h2, h3⟩ := hi
  rintro (q | q)
  · exact h1 q
  · rw [hs, h2] at q; omega
theorem am_ast_cell {U : State} {H' : Heap} {a t n j : Nat} {f : Nat → Value} {ty : FieldType} {cell : Cell} {v : Value} (ht : am_aty t = some ty) (h1 : U.isArrayOf cell ty) (h2 : cell.vm ≠ .unknown) (h3 : cell.slots.size = n) (h4 : n < 2 ^ 31) (h5 : ∀ j : Nat, j < n → cell.slots[j]? = some (am_tv g (f j))) (h6 : am_ra U cell.cls ty) (hj : j < n) (e1 : H'[am_ad g a]? = some (cell.setSlot j (am_tv g v))) : am_cell g U H' a (t, n, fun q => if q = j then v else f q) := by
  refine ⟨fun q => ?_, fun ty' hty => ⟨_, e1, ?_, h2, ?_, h4, fun q hq => ?_, ?_⟩⟩
  · exfalso
    simp only at q
    unfold am_aty at ht
    split at ht <;> first | omega | cases ht
  · have : ty' = ty := Option.some.inj (hty.symm.trans ht)
    subst this
    exact h1
  · simp [Cell.setSlot, h3]
  · by_cases e : q = j
    · subst e
      simp only [Cell.setSlot]
      rw [Array.getElem?_setIfInBounds, if_pos rfl, if_pos (by rw [h3]; exact hq), if_pos trivial]
    · simp only [Cell.setSlot]
      rw [Array.getElem?_setIfInBounds, if_neg (fun z => e z.symm), if_neg e]
      exact h5 q hq
  · have : ty' = ty := Option.some.inj (hty.symm.trans ht)
    subst this
    exact h6

theorem ag_iald {i : Int32} {a j n : Nat} {f : Nat → Value} {v : Value} (hd : decode e.2.1 pc = .ok (.iaload, 1)) (ha : a < h.1) (hc : h.2.2 a = (20, n, f)) (hi : am_ix i j n) (hv : f j = v) (kk : am_G g l e d Q (pc + 1) lv (v :: st) h) : am_G g l e d Q pc lv (.int i :: .ref a :: st) h := by
  refine am_read ?_ kk
  rintro ⟨p, l', e', R, s, m, args, below, meth, c⟩ ⟨hx, hb, hml, hown, -, -, hts, hK, -⟩ H ls locs cells slots QQ hS kk
  obtain ⟨cell, q1, q2, q3, q4, q5, q6, -⟩ := am_arr hS.1 ha hc rfl
  refine W.iald hx hb q1 q2 q3 (am_in hi q4) (v := am_tv g v) ?_ rfl rfl hd kk
  rw [hi.2.1, q6 j hi.2.2, hv]
theorem ag_lald {i : Int32} {a j n : Nat} {f : Nat → Value} {v : Value} (hd : decode e.2.1 pc = .ok (.laload, 1)) (ha : a < h.1) (hc : h.2.2 a = (21, n, f)) (hi : am_ix i j n) (hv : f j = v) (kk : am_G g l e d Q (pc + 1) lv (v :: st) h) : am_G g l e d Q pc lv (.int i :: .ref a :: st) h := by
  refine am_read ?_ kk
  rintro ⟨p, l', e', R, s, m, args, below, meth, c⟩ ⟨hx, hb, hml, hown, -, -, hts, hK, -⟩ H ls locs cells slots QQ hS kk
  obtain ⟨cell, q1, q2, q3, q4, q5, q6, -⟩ := am_arr hS.1 ha hc rfl
  refine W.lald hx hb q1 q2 q3 (am_in hi q4) (v := am_tv g v) ?_ rfl rfl hd kk
  rw [hi.2.1, q6 j hi.2.2, hv]
theorem ag_zald {i : Int32} {a j n : Nat} {f : Nat → Value} {v : Value} (hd : decode e.2.1 pc = .ok (.baload, 1)) (ha : a < h.1) (hc : h.2.2 a = (22, n, f)) (hi : am_ix i j n) (hv : f j = v) (kk : am_G g l e d Q (pc + 1) lv (v :: st) h) : am_G g l e d Q pc lv (.int i :: .ref a :: st) h := by
  refine am_read ?_ kk
  rintro ⟨p, l', e', R, s, m, args, below, meth, c⟩ ⟨hx, hb, hml, hown, -, -, hts, hK, -⟩ H ls locs cells slots QQ hS kk
  obtain ⟨cell, q1, q2, q3, q4, q5, q6, -⟩ := am_arr hS.1 ha hc rfl
  refine W.zald hx hb q1 q2 q3 (am_in hi q4) (v := am_tv g v) ?_ rfl rfl hd kk
  rw [hi.2.1, q6 j hi.2.2, hv]
theorem ag_cald {i : Int32} {a j n : Nat} {f : Nat → Value} {v : Value} (hd : decode e.2.1 pc = .ok (.caload, 1)) (ha : a < h.1) (hc : h.2.2 a = (23, n, f)) (hi : am_ix i j n) (hv : f j = v) (kk : am_G g l e d Q (pc + 1) lv (v :: st) h) : am_G g l e d Q pc lv (.int i :: .ref a :: st) h := by
  refine am_read ?_ kk
  rintro ⟨p, l', e', R, s, m, args, below, meth, c⟩ ⟨hx, hb, hml, hown, -, -, hts, hK, -⟩ H ls locs cells slots QQ hS kk
  obtain ⟨cell, q1, q2, q3, q4, q5, q6, -⟩ := am_arr hS.1 ha hc rfl
  refine W.cald hx hb q1 q2 q3 (am_in hi q4) (v := am_tv g v) ?_ rfl rfl hd kk
  rw [hi.2.1, q6 j hi.2.2, hv]
theorem ag_aald {i : Int32} {a j n t : Nat} {f : Nat → Value} {v : Value} (hd : decode e.2.1 pc = .ok (.aaload, 1)) (ha : a < h.1) (hc : h.2.2 a = (t, n, f)) (ht : 24 ≤ t ∧ t ≤ 27) (hi : am_ix i j n) (hv : f j = v) (kk : am_G g l e d Q (pc + 1) lv (v :: st) h) : am_G g l e d Q pc lv (.int i :: .ref a :: st) h := by
  have hty : ∃ ty : FieldType, am_aty t = some ty ∧ ty.isReference = true := by
    obtain ⟨h1, h2⟩ := ht
    rcases (show t = 24 ∨ t = 25 ∨ t = 26 ∨ t = 27 by omega) with rfl | rfl | rfl | rfl <;> exact ⟨_, rfl, rfl⟩
  obtain ⟨ty, ht1, ht2⟩ := hty
  refine am_read ?_ kk
  rintro ⟨p, l', e', R, s, m, args, below, meth, c⟩ ⟨hx, hb, hml, hown, -, -, hts, hK, -⟩ H ls locs cells slots QQ hS kk
  obtain ⟨cell, q1, q2, q3, q4, q5, q6, -⟩ := am_arr hS.1 ha hc ht1
  refine W.aald hx hb q1 q2 ht2 q3 (am_in hi q4) (v := am_tv g v) ?_ rfl rfl hd kk
  rw [hi.2.1, q6 j hi.2.2, hv]
theorem ag_alen {a n t : Nat} {f : Nat → Value} (hd : decode e.2.1 pc = .ok (.arraylength, 1)) (ha : a < h.1) (hc : h.2.2 a = (t, n, f)) (ht : 20 ≤ t ∧ t ≤ 27) (kk : am_G g l e d Q (pc + 1) lv (.int (nI n) :: st) h) : am_G g l e d Q pc lv (.ref a :: st) h := by
  have hty : ∃ ty : FieldType, am_aty t = some ty := by
    obtain ⟨h1, h2⟩ := ht
    rcases (show t = 20 ∨ t = 21 ∨ t = 22 ∨ t = 23 ∨ t = 24 ∨ t = 25 ∨ t = 26 ∨ t = 27 by omega) with rfl | rfl | rfl | rfl | rfl | rfl | rfl | rfl <;> exact ⟨_, rfl⟩
  obtain ⟨ty, ht1⟩ := hty
  refine am_read ?_ kk
  rintro ⟨p, l', e', R, s, m, args, below, meth, c⟩ ⟨hx, hb, hml, hown, -, -, hts, hK, -⟩ H ls locs cells slots QQ hS kk
  obtain ⟨cell, q1, q2, q3, q4, -⟩ := am_arr hS.1 ha hc ht1
  exact W.alen hx hb q1 q2 (by rw [q4]; rfl) rfl rfl hd kk
theorem ag_iast {i : Int32} {y : Int32} {a j n : Nat} {f : Nat → Value} (hd : decode e.2.1 pc = .ok (.iastore, 1)) (ha : a < h.1) (h0 : a ≠ 0) (hc : h.2.2 a = (20, n, f)) (hi : am_ix i j n) (kk : am_G g l e d Q (pc + 1) lv st (am_wr h a j (.int y))) : am_G g l e d Q pc lv (.int y :: .int i :: .ref a :: st) h := by
  refine am_write (h2 := am_wr h a j (.int y)) rfl rfl ?_ kk
  rintro ⟨p, l', e', R, s, m, args, below, meth, c⟩ ⟨hx, hb, hml, hown, -, -, hts, hK, -⟩ H ls locs cells slots QQ hS kk
  obtain ⟨cell, q1, q2, q3, q4, q5, q6, q7⟩ := am_arr hS.1 ha hc rfl
  refine W.iast hx hb q1 q2 q3 (am_in hi q4) rfl rfl hd fun H' f1 f2 f3 => ?_
  refine kk H' _ (am_st_wr hS h0 f2 f3 ?_)
  rw [hc]
  rw [hi.2.1] at f1
  exact am_ast_cell (v := .int y) rfl q2 q3 q4 q5 q6 q7 hi.2.2 f1
theorem ag_last {i : Int32} {y : Int64} {a j n : Nat} {f : Nat → Value} (hd : decode e.2.1 pc = .ok (.lastore, 1)) (ha : a < h.1) (h0 : a ≠ 0) (hc : h.2.2 a = (21, n, f)) (hi : am_ix i j n) (kk : am_G g l e d Q (pc + 1) lv st (am_wr h a j (.long y))) : am_G g l e d Q pc lv (.long y :: .int i :: .ref a :: st) h := by
  refine am_write (h2 := am_wr h a j (.long y)) rfl rfl ?_ kk
  rintro ⟨p, l', e', R, s, m, args, below, meth, c⟩ ⟨hx, hb, hml, hown, -, -, hts, hK, -⟩ H ls locs cells slots QQ hS kk
  obtain ⟨cell, q1, q2, q3, q4, q5, q6, q7⟩ := am_arr hS.1 ha hc rfl
  refine W.last hx hb q1 q2 q3 (am_in hi q4) rfl rfl hd fun H' f1 f2 f3 => ?_
  refine kk H' _ (am_st_wr hS h0 f2 f3 ?_)
  rw [hc]
  rw [hi.2.1] at f1
  exact am_ast_cell (v := .long y) rfl q2 q3 q4 q5 q6 q7 hi.2.2 f1
theorem ag_zast {i : Int32} {y : Int32} {a j n : Nat} {f : Nat → Value} (hd : decode e.2.1 pc = .ok (.bastore, 1)) (ha : a < h.1) (h0 : a ≠ 0) (hc : h.2.2 a = (22, n, f)) (hi : am_ix i j n) (hy : narrow .boolean (.int y) = .int y) (kk : am_G g l e d Q (pc + 1) lv st (am_wr h a j (.int y))) : am_G g l e d Q pc lv (.int y :: .int i :: .ref a :: st) h := by
  refine am_write (h2 := am_wr h a j (.int y)) rfl rfl ?_ kk
  rintro ⟨p, l', e', R, s, m, args, below, meth, c⟩ ⟨hx, hb, hml, hown, -, -, hts, hK, -⟩ H ls locs cells slots QQ hS kk
  obtain ⟨cell, q1, q2, q3, q4, q5, q6, q7⟩ := am_arr hS.1 ha hc rfl
  refine W.zast hx hb q1 q2 q3 (am_in hi q4) rfl rfl hd fun H' f1 f2 f3 => ?_
  rw [hy] at f1
  refine kk H' _ (am_st_wr hS h0 f2 f3 ?_)
  rw [hc]
  rw [hi.2.1] at f1
  exact am_ast_cell (v := .int y) rfl q2 q3 q4 q5 q6 q7 hi.2.2 f1
theorem ag_cast {i : Int32} {y : Int32} {a j n : Nat} {f : Nat → Value} (hd : decode e.2.1 pc = .ok (.castore, 1)) (ha : a < h.1) (h0 : a ≠ 0) (hc : h.2.2 a = (23, n, f)) (hi : am_ix i j n) (hy : narrow .char (.int y) = .int y) (kk : am_G g l e d Q (pc + 1) lv st (am_wr h a j (.int y))) : am_G g l e d Q pc lv (.int y :: .int i :: .ref a :: st) h := by
  refine am_write (h2 := am_wr h a j (.int y)) rfl rfl ?_ kk
  rintro ⟨p, l', e', R, s, m, args, below, meth, c⟩ ⟨hx, hb, hml, hown, -, -, hts, hK, -⟩ H ls locs cells slots QQ hS kk
  obtain ⟨cell, q1, q2, q3, q4, q5, q6, q7⟩ := am_arr hS.1 ha hc rfl
  refine W.cast hx hb q1 q2 q3 (am_in hi q4) rfl rfl hd fun H' f1 f2 f3 => ?_
  rw [hy] at f1
  refine kk H' _ (am_st_wr hS h0 f2 f3 ?_)
  rw [hc]
  rw [hi.2.1] at f1
  exact am_ast_cell (v := .int y) rfl q2 q3 q4 q5 q6 q7 hi.2.2 f1
/-- an object goes into an array of its class -/
theorem ag_aast {i : Int32} {a j n t b ci nb : Nat} {f fb : Nat → Value} (hd : decode e.2.1 pc = .ok (.aastore, 1)) (ha : a < h.1) (h0 : a ≠ 0) (hc : h.2.2 a = (t, n, f)) (hb' : b < h.1) (hcb : h.2.2 b = (ci, nb, fb)) (ht : ∃ r : vw_C, ci < 11 ∧ vwCl[ci]? = some r ∧ am_aty t = some (.object r.1)) (hi : am_ix i j n) (kk : am_G g l e d Q (pc + 1) lv st (am_wr h a j (.ref b))) : am_G g l e d Q pc lv (.ref b :: .int i :: .ref a :: st) h := by
  obtain ⟨r, t1, t2, t3⟩ := ht
  refine am_write (h2 := am_wr h a j (.ref b)) rfl rfl ?_ kk
  rintro ⟨p, l', e', R, s, m, args, below, meth, c⟩ ⟨hx, hb, hml, hown, -, -, hts, hK, -⟩ H ls locs cells slots QQ hS kk
  obtain ⟨cell, q1, q2, q3, q4, q5, q6, q7⟩ := am_arr hS.1 ha hc t3
  have h1 := (hS.1.2.2.2 b hb').1
  rw [hcb] at h1
  obtain ⟨r', e1, e2, cellV, g1, g2, g3, -⟩ := h1 t1
  have hr : r' = r := Option.some.inj (e1.symm.trans t2)
  subst hr
  have hcls := (hK.1 ci _ t2).2
  obtain ⟨kA, comp, k1, k2, k3⟩ := q7
  have hcomp : comp = g.1.1 ci := Option.some.inj (k3.symm.trans hcls.1)
  subst hcomp
  obtain ⟨kC, hkC, -⟩ := hcls.2
  refine W.aast hx hb q1 q2.1 q3 k1 k2 rfl hkC ⟨hi.1, by rw [hi.2.1, q4]; exact hi.2.2⟩ g1 (fun q h => by rw [g3] at h; cases h) (by rw [g2]; exact hkC) (by rw [g2]; exact va_assign hcls) rfl rfl hd fun H' f1 f2 f3 => ?_
  refine kk H' _ (am_st_wr hS h0 f2 f3 ?_)
  rw [hc]
  rw [hi.2.1] at f1
  exact am_ast_cell (v := .ref b) t3 q2 q3 q4 q5 q6 ⟨kA, _, k1, k2, k3⟩ hi.2.2 f1
theorem ag_aastN {i : Int32} {a j n t : Nat} {f : Nat → Value} {N : String} (hd : decode e.2.1 pc = .ok (.aastore, 1)) (ha : a < h.1) (h0 : a ≠ 0) (hc : h.2.2 a = (t, n, f)) (ht : am_aty t = some (.object N)) (hi : am_ix i j n) (kk : am_G g l e d Q (pc + 1) lv st (am_wr h a j .null)) : am_G g l e d Q pc lv (.null :: .int i :: .ref a :: st) h := by
  refine am_write (h2 := am_wr h a j .null) rfl rfl ?_ kk
  rintro ⟨p, l', e', R, s, m, args, below, meth, c⟩ ⟨hx, hb, hml, hown, -, -, hts, hK, -⟩ H ls locs cells slots QQ hS kk
  obtain ⟨cell, q1, q2, q3, q4, q5, q6, q7⟩ := am_arr hS.1 ha hc ht
  refine va_WaastN hx hb q1 q2 q3 (am_in hi q4) rfl rfl hd fun H' f1 f2 f3 => ?_
  refine kk H' _ (am_st_wr hS h0 f2 f3 ?_)
  rw [hc]
  rw [hi.2.1] at f1
  exact am_ast_cell (v := .null) ht q2 q3 q4 q5 q6 q7 hi.2.2 f1
end AI
