/-! Calls of methods that have a contract. -/
/-- what the tables say of a method of n parameters -/
def am_me (e : am_E) (n : Nat) : Prop := Cond.code e.1 e.2.1 e.2.2.1 e.2.2.2 ∈ am_tbl ∧ Cond.initialized e.1.cls ∈ am_tbl ∧ (e.1.cls ≠ "java/lang/invoke/MethodHandle" ∧ e.1.cls ≠ "java/lang/invoke/VarHandle" ∧ (parseMethodDescriptor e.1.desc).map (fun d => d.parameters.length) = some n) ∧ e.2.2.1 ≤ 40
/-- .. of an instance method of the class ci -/
def am_mi (e : am_E) (ci : Nat) : Prop := ci < 11 ∧ Cond.instanceMethod e.1 ∈ am_tbl ∧ Cond.selects e.1.cls e.1 e.1 ∈ am_tbl ∧ ∃ r : vw_C, vwCl[ci]? = some r ∧ r.1 = e.1.cls
/-- the entry i of own names it: as any link, as a link among nest mates -/
def am_lk (own : String) (i : Nat) (e : am_E) : Prop := Cond.methodLink own i e.1 ∈ am_tbl
def am_ln (own : String) (i : Nat) (e : am_E) : Prop := ∃ host : String, Cond.methodLinkNest own i e.1 host ∈ am_nest
theorem am_good (e : am_E) (h : Cond.code e.1 e.2.1 e.2.2.1 e.2.2.2 ∈ am_tbl) : GoodIn am_tbl (am_ws e) := by
  have hg : ∀ w ∈ am_tbl, w ∈ am_tbl ∧ ((w.onTables && w.keeps) = true ∨ ∃ ty, w = .arrayClass ty) := fun w hw => ⟨hw, good_of_word (List.mem_filter.mp hw).2⟩
  intro w hw
  rcases List.mem_cons.mp hw with rfl | hw
  · exact hg _ h
  · exact hg w hw
theorem am_Pc_blind {g : am_P} {as : List Value} {h : am_H} : FrameBlind (am_Pc g as h) := by
  rintro a U fr mk ⟨q0, q1, q2, q3⟩
  exact ⟨q0, am_hold.moved (u := U) (U := U.calling fr mk a) (Vm.Alike.refl U.vm) q1, va_K.moved (u := U) (U := U.calling fr mk a) (Vm.Alike.refl U.vm) q2, am_F.same (u := U) (U := U.calling fr mk a) rfl rfl q3⟩
theorem am_Pc_at {g : am_P} {s : State} {as : List Value} {h : am_H} {H : Heap} (hold : am_hold g s h H) (hH : ∀ q : Nat, q < g.2.2 → H[q]? = s.heap[q]?) (hK : va_K g.1 vwCl [] s) (hF : am_F g s) : ∀ U : State, U.heap = H → s.WarmedH U.vm → am_Pc g as h (as.map (am_tv g)).toArray U := fun U hU hW => ⟨rfl, by rw [hU]; exact hold.moved hW.alike, va_K.moved hW.alike hK, hF.moved hW fun a _ ha => by rw [hU]; exact hH a (Nat.not_le.mp ha)⟩
section AL
variable {g : am_P} {l : Launch} {e : am_E} {d : Nat} {Q : am_R → am_H → Prop} {pc : Nat} {lv : am_L} {h : am_H}
/-- behind a call -/
theorem am_go {x : am_T} {H : Heap} {ls : Array Slot} {locs : List Loc} {cells slots : Nat} {QQ : State → Prop} {st0 rest : List Value} {h2 : am_H} {v : Option Value} {mc ms : Nat} {a : Array Value} (hS : am_st g x h H locs)
    (hr : match x with | (p, l, e, R, s, m, args, below, meth, c) => va_Run p l e R s m args below meth c H locs cells slots mc ms (F0 m pc ls st0) (rest.map (am_tv g)) (am_Qc g v h2 a) (fun q => g.2.2 ≤ q))
    (kk : ∀ (H' : Heap) (locs' : List Loc), am_st g x h2 H' locs' → am_W x H' locs' (cells + mc) (slots + ms) QQ (pc + 3) ls ((v.toList ++ rest).map (am_tv g))) : am_W x H locs cells slots QQ pc ls st0 := by
  obtain ⟨p, l, e, R, s, m, args, below, meth, c⟩ := x
  intro T hT X
  obtain ⟨v', st₀, t, T', L, h0, X', hL, e1, e2, ⟨q1, q2, q3⟩, go⟩ := hr T hT X
  have q1' : v' = v.map (am_tv g) := by cases q1; rfl
  subst q1'
  have hW : s.vm.Alike t.vm := by rw [← e2]; exact X'.warmed.alike
  have hst : am_st g (p, l, e, R, s, m, args, below, meth, c) h2 T'.heap (locs ++ L) := by
    refine ⟨by rw [e1]; exact q2.moved hW.symm, fun q hq => ?_, fun q hq => ?_⟩
    · rw [e1, q3 q hq, h0]
      exact hS.2.1 q hq
    · rcases List.mem_append.mp hq with z | z
      · exact hS.2.2 q z
      · exact hL q z
  obtain ⟨t2, a1, b1⟩ := kk T'.heap (locs ++ L) hst T' rfl X'
  refine ⟨t2, go t2 ?_, b1⟩
  have e9 : (v.map (am_tv g)).toList ++ rest.map (am_tv g) = (v.toList ++ rest).map (am_tv g) := by cases v <;> simp
  rw [e9]
  exact a1
theorem am_Gcall {e2 : am_E} {as st rest : List Value} (k : am_Mt l g d e2 as h (fun v h' => am_G g l e (d + 1) Q (pc + 3) lv (v.toList ++ rest) h'))
    (F : ∀ (v : Option Value) (h2 : am_H), Met l e2.1 (am_ws e2) (am_room d h h2) (am_Pc g as h) (am_Qc g v h2) (h2.1 - h.1) (h2.2.1 - h.2.1) (fun q => g.2.2 ≤ q) → ∀ x : am_T, am_ok g l e (d + 1) x → ∀ (H : Heap) (ls : Array Slot) (locs : List Loc) (cells slots : Nat), am_st g x h H locs → am_lv g ls (am_nL x) lv → cells + (h2.1 - h.1) ≤ (am_rm x).cells → slots + (h2.2.1 - h.2.1) ≤ (am_rm x).slots →
      match x with | (p, l, e, R, s, m, args, below, meth, c) => va_Run p l e R s m args below meth c H locs cells slots (h2.1 - h.1) (h2.2.1 - h.2.1) (F0 m pc ls (st.map (am_tv g))) (rest.map (am_tv g)) (am_Qc g v h2 (as.map (am_tv g)).toArray) (fun q => g.2.2 ≤ q)) : am_G g l e (d + 1) Q pc lv st h := by
  obtain ⟨v, h2, ⟨r, h3, hq, g1, g2, kk⟩, h1, h1', hM⟩ := k
  refine ⟨r, h3, hq, Nat.le_trans h1 g1, Nat.le_trans h1' g2, fun x C H ls locs cells slots QQ hS hl hc1 hc2 hE => ?_⟩
  have e1 : cells + (h2.1 - h.1) + (h3.1 - h2.1) = cells + (h3.1 - h.1) := by omega
  have e2' : slots + (h2.2.1 - h.2.1) + (h3.2.1 - h2.2.1) = slots + (h3.2.1 - h.2.1) := by omega
  refine am_go (v := v) (h2 := h2) (mc := h2.1 - h.1) (ms := h2.2.1 - h.2.1) hS (F v h2 hM x C H ls locs cells slots hS hl (by omega) (by omega)) fun H' locs' hS' => ?_
  exact kk x C H' ls locs' _ _ QQ hS' hl (by rw [e1]; exact hc1) (by rw [e2']; exact hc2) (by rw [e1, e2']; exact hE)
theorem am_recv {U : State} {H : Heap} {a ci : Nat} {r : vw_C} (hold : am_hold g U h H) (hK : va_K g.1 vwCl [] U) (ha : a < h.1) (hc : (h.2.2 a).1 = ci) (hci : ci < 11) (hcl : vwCl[ci]? = some r) : ∃ cell : Cell, H[am_ad g a]? = some cell ∧ cell.vm.isStatics = false ∧ U.vm.findClass r.1 = some cell.cls := by
  obtain ⟨r', e1, e2, cell, q1, q2, q3, q4⟩ := (hold.2.2.2 a ha).1 (by rw [hc]; exact hci)
  refine ⟨cell, q1, by rw [q3]; rfl, ?_⟩
  rw [q2, hc]
  exact (hK.1 ci r hcl).2.1
theorem am_fits {R : Room} {n : Nat} (h1 : am_fr (d + 1) ≤ R.frames) (h2 : am_lo (d + 1) ≤ R.locals) (hn : n ≤ 40) : am_fr d + 1 ≤ R.frames ∧ 8 + (n + 11) + am_lo d ≤ R.locals := by
  unfold am_fr at *
  unfold am_lo at *
  omega
theorem am_stk {as rest : List Value} {b : Value} : (as.reverse ++ b :: rest).map (am_tv g) = (as.map (am_tv g)).reverse ++ am_tv g b :: rest.map (am_tv g) := by simp
theorem am_stk0 {as rest : List Value} : (as.reverse ++ rest).map (am_tv g) = (as.map (am_tv g)).reverse ++ rest.map (am_tv g) := by simp
theorem am_catsum {rest : List Value} (h : (rest.map fun v => v.category).sum ≤ 8) : ((rest.map (am_tv g)).map fun v => v.category).sum ≤ 8 := by rw [am_cats]; exact h
set_option maxHeartbeats 1000000 in
theorem ag_callV {i a ci n : Nat} {e2 : am_E} {as st rest : List Value} (hd : decode e.2.1 pc = .ok (.invokevirtual i, 3)) (hm : am_me e2 n) (hi : am_mi e2 ci) (hl : am_lk e.1.cls i e2) (ha : a < h.1) (hc : (h.2.2 a).1 = ci) (hn : as.length = n) (hst : as.reverse ++ .ref a :: rest = st) (hcat : (rest.map fun v => v.category).sum ≤ 8)
    (k : am_Mt l g d e2 (.ref a :: as) h (fun v h' => am_G g l e (d + 1) Q (pc + 3) lv (v.toList ++ rest) h')) : am_G g l e (d + 1) Q pc lv st h := by
  subst hst
  refine am_Gcall k ?_
  rintro v h2 hM ⟨p, l', e', R, s, m, args, below, meth, c⟩ ⟨hx, hb, hml, hown, -, -, hts, hK, hF, hfr, hlo, -, rfl, -⟩ H ls locs cells slots hS hlv hc1 hc2
  obtain ⟨m1, m2, m3, m4⟩ := hm
  obtain ⟨i1, i2, i3, r, i4, i5⟩ := hi
  show va_Run _ _ _ _ _ _ _ _ _ _ _ _ _ _ _ _ _ _ _ _
  rw [am_stk]
  exact va_runV (Ts := am_tbl) (own := e.1.cls) (nL := c.maxLocals) ⟨hx, hb, rfl, hown, hts⟩ hM (C := e2.1.cls) (bytes := e2.2.1) (maxL := e2.2.2.1) (ret := e2.2.2.2) (n := n)
    ⟨callB_of n hts (am_good e2 m1) rfl rfl rfl (hts _ m2) (hts _ hl) m3 (am_fits hfr hlo m4), hts _ i2, hts _ i3⟩ ⟨am_Pc_blind, i5 ▸ am_recv hS.1 hK ha hc i1 i4, am_Pc_at hS.1 hS.2.1 hK hF⟩ rfl (by rw [List.length_map]; exact hn) hlv.1 rfl
    (by show 2 * (F0 m pc ls _).monitorRoom + _ ≤ 8; exact lv_room (m := m) (pc := pc) (ls := ls) (rest := []) (am_catsum hcat)) hd ⟨hc1, hc2⟩
end AL
