/-! new int[4][17]: the outer cell, behind it the four rows. -/
def am_mna (h : am_H) : am_H := (h.1 + 5, h.2.1 + 72, fun a => if a < h.1 then h.2.2 a else if a = h.1 then (24, 4, fun i => .ref (h.1 + 1 + i)) else (20, 17, fun _ => .int 0))
def cmna (C : cS) : cS := (C.1 + 5, C.2.1 + 72, fun a => if a < C.1 then C.2.2.1 a else if a = C.1 then (24, 4) else (20, 17), fun a i => if a < C.1 then C.2.2.2.1 a i else 0, fun a i => if a < C.1 then C.2.2.2.2.1 a i else 0, fun a i => if a < C.1 then C.2.2.2.2.2 a i else if a = C.1 then some (C.1 + 1 + i) else none)
theorem cH_mna (C : cS) : am_mna (cH C) = cH (cmna C) := by
  refine am_H_ext rfl rfl fun b => ?_
  show (if b < C.1 then (cH C).2.2 b else if b = C.1 then (24, 4, fun i => Value.ref (C.1 + 1 + i)) else (20, 17, fun _ => Value.int 0)) = (((cmna C).2.2.1 b).1, ((cmna C).2.2.1 b).2, fun i => cv (cmna C) b i)
  by_cases e : b < C.1
  · rw [if_pos e]
    show ((C.2.2.1 b).1, (C.2.2.1 b).2, fun i => cv C b i) = _
    refine Prod.ext ?_ (Prod.ext ?_ (funext fun i => ?_))
    · simp [cmna, e]
    · simp [cmna, e]
    · show cv C b i = cv (cmna C) b i
      simp [cv, cmna, e, cI, cJ, cR]
  · rw [if_neg e]
    by_cases e2 : b = C.1
    · rw [if_pos e2]
      refine Prod.ext ?_ (Prod.ext ?_ (funext fun i => ?_))
      · simp [cmna, e2]
      · simp [cmna, e2]
      · show _ = cv (cmna C) b i
        simp [cv, cmna, e2, cI, cJ, cR, cz, cK, va_rf]
    · rw [if_neg e2]
      refine Prod.ext ?_ (Prod.ext ?_ (funext fun i => ?_))
      · simp [cmna, e, e2]
      · simp [cmna, e, e2]
      · show _ = cv (cmna C) b i
        simp [cv, cmna, e, e2, cI, cJ, cR, cz, cK]
theorem cle_mna (C : cS) : cle C (cmna C) := ⟨Nat.le_add_right _ _, fun a ha => by show (if a < C.1 then _ else _) = _; rw [if_pos ha]⟩
set_option maxHeartbeats 1000000 in
theorem ag_mna {g : am_P} {l : Launch} {e : am_E} {d : Nat} {Q : am_R → am_H → Prop} {pc : Nat} {lv : am_L} {st : List Value} {h : am_H} {ix : Nat} (hd : decode e.2.1 pc = .ok (.multianewarray ix 2, 4)) (hw : Cond.classLink e.1.cls ix "[[I" ∈ am_tbl) (hw2 : Cond.arrayClass .int ∈ am_tbl) (kk : am_G g l e d Q (pc + 4) lv (.ref h.1 :: st) (am_mna h)) : am_G g l e d Q pc lv (.int 17 :: .int 4 :: st) h := by
  obtain ⟨r, h', hq, h1, h2, k⟩ := kk
  have h1' : h.1 + 5 ≤ h'.1 := h1
  have h2' : h.2.1 + 72 ≤ h'.2.1 := h2
  refine ⟨r, h', hq, by omega, by omega, ?_⟩
  rintro ⟨p, l', e', R, s, m, args, below, meth, c⟩ ⟨hx, hb, hml, hown, hlk, hrt, hts, hK, hF, hrest⟩ H ls locs cells slots QQ hS hl hc1 hc2 hE
  have hc1' : cells + (h'.1 - h.1) ≤ R.cells := hc1
  have hc2' : slots + (h'.2.1 - h.2.1) ≤ R.slots := hc2
  have n4 : (4 : Int32).toNatClampNeg = 4 := by decide
  have n17 : (17 : Int32).toNatClampNeg = 17 := by decide
  intro T hT Xs
  obtain ⟨vm₁, cA, comp, -, fA, fC, hO, hI, X', step⟩ := Xs.multianewarray2F (ty := .int) hx hown (hts _ hw) (va_AOA.use hF.2.2.2.2.1) (hts _ hw2) (g := F0 m pc ls (.int 17 :: .int 4 :: st.map (am_tv g))) rfl (by rw [hb]; exact hd) rfl (by decide) (by decide) (by decide) (by decide) (by decide) rfl rfl (by rw [n4]; omega) (by rw [n4, n17]; omega)
  rw [n4, n17] at X' step
  generalize hFe : Jvm.Free.Multi.fill (T.setVm vm₁) cA comp 4 17 (defaultValue .int) 4 = F at X' step
  have hTh : (T.setVm vm₁).heap = H := hT
  obtain ⟨f1, f2, -, -⟩ := Jvm.Free.Multi.fill_facts (T.setVm vm₁) cA comp 4 17 (defaultValue .int) 4
  rw [hFe, hTh] at f1 f2
  have hold : ∀ x : Nat, x < H.size → F.heap[x]? = H[x]? := fun x hx => by
    have := Jvm.Free.Multi.fill_old (T.setVm vm₁) cA comp 4 17 (defaultValue .int) (a := x) (by rw [hTh]; exact hx) 4
    rw [hFe, hTh] at this
    exact this
  have hrow : ∀ j : Nat, j < 4 → F.heap[H.size + 1 + j]? = some (Jvm.Free.Multi.innerC comp 17 (defaultValue .int)) := fun j hj => by
    have := Jvm.Free.Multi.fill_inner (T.setVm vm₁) cA comp 4 17 (defaultValue .int) 4 j hj
    rw [hFe, hTh] at this
    exact this
  have htop : am_ad g h.1 = H.size := am_ad_top hS.1
  have hnext : ∀ j : Nat, am_ad g (h.1 + 1 + j) = H.size + 1 + j := fun j => by
    rw [← htop]
    obtain ⟨q, hq⟩ : ∃ q, h.1 = q + 1 := ⟨h.1 - 1, by have := hS.1.1; omega⟩
    rw [hq]
    rw [show q + 1 + 1 + j = (q + 1 + j) + 1 by omega]
    simp only [am_ad]
    omega
  have hst : am_st g (p, l', e', R, s, m, args, below, meth, c) (am_mna h) F.heap locs := by
    obtain ⟨⟨g1, g2, g3, g4⟩, g5, g6⟩ := hS
    refine ⟨⟨by show 1 ≤ h.1 + 5; omega, by show F.heap.size + 1 = g.2.2 + (h.1 + 5); omega, g3, fun a ha => ?_⟩, fun q hq => ?_, g6⟩
    · show am_cell g s F.heap a (if a < h.1 then h.2.2 a else if a = h.1 then (24, 4, fun i => .ref (h.1 + 1 + i)) else (20, 17, fun _ => .int 0))
      by_cases e1 : a < h.1
      · rw [if_pos e1]
        exact (g4 a e1).kept (hold _ (am_ad_lt ⟨g1, g2, g3, g4⟩ e1))
      · rw [if_neg e1]
        by_cases e2 : a = h.1
        · subst e2
          rw [if_pos rfl]
          refine ⟨fun q => absurd q (show ¬ 24 < 11 by decide), fun ty hty => ⟨_, by rw [htop]; exact f2, ?_, (hO 4 H.size 4).2, ?_, (show 4 < 2 ^ 31 by decide), fun j hj => ?_, ?_⟩⟩
          · cases hty
            exact (hO 4 H.size 4).1
          · exact (Jvm.Free.Multi.outerC_facts cA 4 H.size 4).2.2
          · rw [vr_outer]
            have hj' : j < 4 := hj
            show (arrV cA 4 _).slots[j]? = _
            rw [arrV_read _ _ hj']
            show some (va_rf (if j < 4 then some (H.size + 1 + j) else none)) = some (am_tv g (.ref (h.1 + 1 + j)))
            rw [if_pos hj']
            show some (Value.ref (H.size + 1 + j)) = some (Value.ref (am_ad g (h.1 + 1 + j)))
            rw [hnext]
          · cases hty
            trivial
        · rw [if_neg e2]
          obtain ⟨j, hj, rfl⟩ : ∃ j, j < 4 ∧ a = h.1 + 1 + j := ⟨a - (h.1 + 1), by have : a < h.1 + 5 := ha; omega, by omega⟩
          refine ⟨fun q => absurd q (by decide), fun ty hty => ⟨_, by rw [hnext]; exact hrow j hj, ?_, (hI 17 _).2, by simp [Jvm.Free.Multi.innerC], by decide, fun i hi => ?_, ?_⟩⟩
          · cases hty
            exact (hI 17 _).1
          · have hi' : i < 17 := hi
            simp [Jvm.Free.Multi.innerC, hi', am_tv, defaultValue]
          · cases hty
            trivial
    · rw [hold q (by omega)]
      exact g5 q hq
  have e1 : cells + 1 + 4 + (h'.1 - (am_mna h).1) = cells + (h'.1 - h.1) := by show cells + 1 + 4 + (h'.1 - (h.1 + 5)) = _; omega
  have e2 : slots + 4 + 4 * 17 + (h'.2.1 - (am_mna h).2.1) = slots + (h'.2.1 - h.2.1) := by show slots + 4 + 4 * 17 + (h'.2.1 - (h.2.1 + 72)) = _; omega
  obtain ⟨t, a1, b1⟩ := k (p, l', e', R, s, m, args, below, meth, c) ⟨hx, hb, hml, hown, hlk, hrt, hts, hK, hF, hrest⟩ F.heap ls locs (cells + 1 + 4) (slots + 4 + 4 * 17) QQ hst hl (by rw [e1]; exact hc1) (by rw [e2]; exact hc2) (by rw [e1, e2]; exact hE) F rfl X'
  refine ⟨t, step t ?_, b1⟩
  have e3 : T.heap.size = H.size := by rw [hT]
  rw [e3, ← htop]
  exact a1
theorem cr_mna {c : cX} {e : am_E} {d : Nat} {Q : am_R → am_H → Prop} {pc : Nat} {lv : am_L} {st : List Value} {C C2 : cS} {ix : Nat} (hd : decode e.2.1 pc = .ok (.multianewarray ix 2, 4)) (hw : Cond.classLink e.1.cls ix "[[I" ∈ am_tbl) (hs : cmna C = C2) (kk : cG c e d Q (pc + 4) lv (.ref C.1 :: st) C2) : cG c e d Q pc lv (.int 17 :: .int 4 :: st) C := by
  subst hs
  refine ag_mna hd hw ac_int ?_
  rw [cH_mna]
  exact kk
