/-! The other kinds of calls. -/
section AM
variable {g : am_P} {l : Launch} {e : am_E} {d : Nat} {Q : am_R → am_H → Prop} {pc : Nat} {lv : am_L} {h : am_H}
set_option maxHeartbeats 1000000 in
theorem ag_callVN {i a ci n : Nat} {e2 : am_E} {as st rest : List Value} (hd : decode e.2.1 pc = .ok (.invokevirtual i, 3)) (hm : am_me e2 n) (hi : am_mi e2 ci) (hl : am_ln e.1.cls i e2) (ha : a < h.1) (hc : (h.2.2 a).1 = ci) (hn : as.length = n) (hst : as.reverse ++ .ref a :: rest = st) (hcat : (rest.map fun v => v.category).sum ≤ 8)
    (k : am_Mt l g d e2 (.ref a :: as) h (fun v h' => am_G g l e (d + 1) Q (pc + 3) lv (v.toList ++ rest) h')) : am_G g l e (d + 1) Q pc lv st h := by
  subst hst
  refine am_Gcall k ?_
  rintro v h2 hM ⟨p, l', e', R, s, m, args, below, meth, c⟩ ⟨hx, hb, hml, hown, -, -, hts, hK, hF, hfr, hlo, -, rfl, -⟩ H ls locs cells slots hS hlv hc1 hc2
  obtain ⟨m1, m2, m3, m4⟩ := hm
  obtain ⟨i1, i2, i3, r, i4, i5⟩ := hi
  obtain ⟨host, hl⟩ := hl
  show va_Run _ _ _ _ _ _ _ _ _ _ _ _ _ _ _ _ _ _ _ _
  rw [am_stk]
  exact va_runVN (Ts := am_tbl) (own := e.1.cls) (nL := c.maxLocals) ⟨hx, hb, rfl, hown, hts⟩ hM (bytes := e2.2.1) (maxL := e2.2.2.1) (ret := e2.2.2.2) (n := n) (host := host) (C := e2.1.cls)
    ⟨va_cnB n hts (am_good e2 m1) rfl rfl rfl (hF.1 _ hl) (hts _ m2) m3 (am_fits hfr hlo m4), hts _ i2, hts _ i3⟩ ⟨am_Pc_blind, i5 ▸ am_recv hS.1 hK ha hc i1 i4, am_Pc_at hS.1 hS.2.1 hK hF⟩ rfl (by rw [List.length_map]; exact hn) hlv.1 rfl
    (by show 2 * (F0 m pc ls _).monitorRoom + _ ≤ 8; exact lv_room (m := m) (pc := pc) (ls := ls) (rest := []) (am_catsum hcat)) hd ⟨hc1, hc2⟩
set_option maxHeartbeats 1000000 in
theorem ag_callS {i n : Nat} {e2 : am_E} {as st rest : List Value} (hd : decode e.2.1 pc = .ok (.invokestatic i, 3)) (hm : am_me e2 n) (hs : Cond.static e2.1 ∈ am_tbl) (hl : am_lk e.1.cls i e2) (hn : as.length = n) (hst : as.reverse ++ rest = st) (hcat : (rest.map fun v => v.category).sum ≤ 8)
    (k : am_Mt l g d e2 as h (fun v h' => am_G g l e (d + 1) Q (pc + 3) lv (v.toList ++ rest) h')) : am_G g l e (d + 1) Q pc lv st h := by
  subst hst
  refine am_Gcall k ?_
  rintro v h2 hM ⟨p, l', e', R, s, m, args, below, meth, c⟩ ⟨hx, hb, hml, hown, -, -, hts, hK, hF, hfr, hlo, -, rfl, -⟩ H ls locs cells slots hS hlv hc1 hc2
  obtain ⟨m1, m2, m3, m4⟩ := hm
  show va_Run _ _ _ _ _ _ _ _ _ _ _ _ _ _ _ _ _ _ _ _
  rw [am_stk0]
  exact va_runS (Ts := am_tbl) (own := e.1.cls) (nL := c.maxLocals) ⟨hx, hb, rfl, hown, hts⟩ hM (bytes := e2.2.1) (maxL := e2.2.2.1) (ret := e2.2.2.2) (n := n)
    ⟨callB_of n hts (am_good e2 m1) rfl rfl rfl (hts _ m2) (hts _ hl) m3 (am_fits hfr hlo m4), hts _ hs⟩ ⟨am_Pc_blind, am_Pc_at hS.1 hS.2.1 hK hF⟩ rfl (by rw [List.length_map]; exact hn) hlv.1 rfl
    (by show 2 * (F0 m pc ls _).monitorRoom + _ ≤ 8; exact lv_room (m := m) (pc := pc) (ls := ls) (rest := []) (am_catsum hcat)) hd ⟨hc1, hc2⟩
set_option maxHeartbeats 1000000 in
theorem ag_callSN {i n : Nat} {e2 : am_E} {as st rest : List Value} (hd : decode e.2.1 pc = .ok (.invokestatic i, 3)) (hm : am_me e2 n) (hs : Cond.static e2.1 ∈ am_tbl) (hl : am_ln e.1.cls i e2) (hn : as.length = n) (hst : as.reverse ++ rest = st) (hcat : (rest.map fun v => v.category).sum ≤ 8)
    (k : am_Mt l g d e2 as h (fun v h' => am_G g l e (d + 1) Q (pc + 3) lv (v.toList ++ rest) h')) : am_G g l e (d + 1) Q pc lv st h := by
  subst hst
  refine am_Gcall k ?_
  rintro v h2 hM ⟨p, l', e', R, s, m, args, below, meth, c⟩ ⟨hx, hb, hml, hown, -, -, hts, hK, hF, hfr, hlo, -, rfl, -⟩ H ls locs cells slots hS hlv hc1 hc2
  obtain ⟨m1, m2, m3, m4⟩ := hm
  obtain ⟨host, hl⟩ := hl
  show va_Run _ _ _ _ _ _ _ _ _ _ _ _ _ _ _ _ _ _ _ _
  rw [am_stk0]
  exact va_runSN (Ts := am_tbl) (own := e.1.cls) (nL := c.maxLocals) ⟨hx, hb, rfl, hown, hts⟩ hM (bytes := e2.2.1) (maxL := e2.2.2.1) (ret := e2.2.2.2) (n := n) (host := host)
    ⟨va_cnB n hts (am_good e2 m1) rfl rfl rfl (hF.1 _ hl) (hts _ m2) m3 (am_fits hfr hlo m4), hts _ hs, trivial⟩ ⟨am_Pc_blind, am_Pc_at hS.1 hS.2.1 hK hF⟩ rfl (by rw [List.length_map]; exact hn) hlv.1 rfl
    (by show 2 * (F0 m pc ls _).monitorRoom + _ ≤ 8; exact lv_room (m := m) (pc := pc) (ls := ls) (rest := []) (am_catsum hcat)) hd ⟨hc1, hc2⟩
set_option maxHeartbeats 1000000 in
theorem ag_callI {i a ci n : Nat} {e2 : am_E} {as st rest : List Value} (hd : decode e.2.1 pc = .ok (.invokespecial i, 3)) (hm : am_me e2 n) (hi : e2.1.name = "<init>" ∧ Cond.instanceMethod e2.1 ∈ am_tbl ∧ e2.2.2.2 = none) (hl : am_lk e.1.cls i e2) (hn : as.length = n) (hst : as.reverse ++ .ref a :: rest = st) (hcat : (rest.map fun v => v.category).sum ≤ 8)
    (k : am_Mt l g d e2 (.ref a :: as) h (fun v h' => am_G g l e (d + 1) Q (pc + 3) lv (v.toList ++ rest) h')) : am_G g l e (d + 1) Q pc lv st h := by
  subst hst
  refine am_Gcall k ?_
  rintro v h2 hM ⟨p, l', e', R, s, m, args, below, meth, c⟩ ⟨hx, hb, hml, hown, -, -, hts, hK, hF, hfr, hlo, -, rfl, -⟩ H ls locs cells slots hS hlv hc1 hc2
  obtain ⟨m1, m2, m3, m4⟩ := hm
  obtain ⟨i1, i2, i3⟩ := hi
  show va_Run _ _ _ _ _ _ _ _ _ _ _ _ _ _ _ _ _ _ _ _
  rw [am_stk]
  obtain ⟨y2, b2, mL2, rt2⟩ := e2
  have i3 : rt2 = none := i3
  subst i3
  exact va_runI (Ts := am_tbl) (own := e.1.cls) (nL := c.maxLocals) ⟨hx, hb, rfl, hown, hts⟩ hM (bytes := b2) (maxL := mL2) (n := n)
    ⟨callB_of n hts (am_good (y2, b2, mL2, none) m1) rfl rfl rfl (hts _ m2) (hts _ hl) m3 (am_fits hfr hlo m4), i1, hts _ i2⟩ ⟨am_Pc_blind, am_Pc_at hS.1 hS.2.1 hK hF⟩ rfl (by rw [List.length_map]; exact hn) hlv.1 rfl
    (by show 2 * (F0 m pc ls _).monitorRoom + _ ≤ 8; exact lv_room (m := m) (pc := pc) (ls := ls) (rest := []) (am_catsum hcat)) hd ⟨hc1, hc2⟩
set_option maxHeartbeats 1000000 in
theorem ag_callIN {i a ci n : Nat} {e2 : am_E} {as st rest : List Value} (hd : decode e.2.1 pc = .ok (.invokespecial i, 3)) (hm : am_me e2 n) (hi : e2.1.name = "<init>" ∧ Cond.instanceMethod e2.1 ∈ am_tbl ∧ e2.2.2.2 = none) (hl : am_ln e.1.cls i e2) (hn : as.length = n) (hst : as.reverse ++ .ref a :: rest = st) (hcat : (rest.map fun v => v.category).sum ≤ 8)
    (k : am_Mt l g d e2 (.ref a :: as) h (fun v h' => am_G g l e (d + 1) Q (pc + 3) lv (v.toList ++ rest) h')) : am_G g l e (d + 1) Q pc lv st h := by
  subst hst
  refine am_Gcall k ?_
  rintro v h2 hM ⟨p, l', e', R, s, m, args, below, meth, c⟩ ⟨hx, hb, hml, hown, -, -, hts, hK, hF, hfr, hlo, -, rfl, -⟩ H ls locs cells slots hS hlv hc1 hc2
  obtain ⟨m1, m2, m3, m4⟩ := hm
  obtain ⟨i1, i2, i3⟩ := hi
  obtain ⟨host, hl⟩ := hl
  show va_Run _ _ _ _ _ _ _ _ _ _ _ _ _ _ _ _ _ _ _ _
  rw [am_stk]
  obtain ⟨y2, b2, mL2, rt2⟩ := e2
  have i3 : rt2 = none := i3
  subst i3
  exact va_runIN (Ts := am_tbl) (own := e.1.cls) (nL := c.maxLocals) ⟨hx, hb, rfl, hown, hts⟩ hM (bytes := b2) (maxL := mL2) (n := n) (host := host)
    ⟨va_cnB n hts (am_good (y2, b2, mL2, none) m1) rfl rfl rfl (hF.1 _ hl) (hts _ m2) m3 (am_fits hfr hlo m4), i1, hts _ i2⟩ ⟨am_Pc_blind, am_Pc_at hS.1 hS.2.1 hK hF⟩ rfl (by rw [List.length_map]; exact hn) hlv.1 rfl
    (by show 2 * (F0 m pc ls _).monitorRoom + _ ≤ 8; exact lv_room (m := m) (pc := pc) (ls := ls) (rest := []) (am_catsum hcat)) hd ⟨hc1, hc2⟩
theorem ag_obj {i a : Nat} {st : List Value} (hd : decode e.2.1 pc = .ok (.invokespecial i, 3)) (hl : Cond.methodLink e.1.cls i Lib.objectInit ∈ am_tbl) (h1 : Cond.instanceMethod Lib.objectInit ∈ am_tbl) (h2 : Cond.code Lib.objectInit ⟨#[0xb1]⟩ 1 none ∈ am_tbl) (hcat : (st.map fun v => v.category).sum ≤ 8)
    (k : am_G g l e d Q (pc + 3) lv st h) : am_G g l e d Q pc lv (.ref a :: st) h := by
  refine am_pure ?_ k
  rintro ⟨p, l', e', R, s, m, args, below, meth, c⟩ ⟨hx, hb, hml, hown, -, -, hts, -, -, hfr, hlo, -⟩
  intro H ls locs cells slots QQ hl2 kk
  unfold am_fr at hfr
  unfold am_lo at hlo
  have h9 := lv_room (m := m) (pc := pc) (ls := ls) (rest := []) (am_catsum (g := g) hcat)
  have h10 : 2 * (F0 m pc ls (am_tv g (.ref a) :: st.map (am_tv g))).monitorRoom + ((st.map (am_tv g)).map fun v => v.category).sum + 12 ≤ R.locals := by
    have h11 : (F0 m pc ls (am_tv g (.ref a) :: st.map (am_tv g))).monitorRoom = (F0 m pc ls []).monitorRoom := rfl
    rw [h11]
    omega
  exact W.objInit hx hb hown (hts _ hl) (hts _ h1) (hts _ h2) rfl hl2.1 rfl hd (by omega) h10 (kk ls hl2)
end AM
