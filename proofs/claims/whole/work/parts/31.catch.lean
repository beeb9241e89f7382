/-! Calls that may throw, caught by the caller; methods with a table of handlers. -/
def am_wsW (e : am_E) (hh : List (Nat × Nat × Nat × Nat)) : List Cond := Cond.codeWith e.1 e.2.1 e.2.2.1 e.2.2.2 hh :: am_tbl
/-- a contract of a method with a table -/
def am_MtW (l : Launch) (g : am_P) (d : Nat) (e : am_E) (hh : List (Nat × Nat × Nat × Nat)) (as : List Value) (h : am_H) (Q : Option Value → am_H → Prop) : Prop :=
  ∃ (v : Option Value) (h' : am_H), Q v h' ∧ h.1 ≤ h'.1 ∧ h.2.1 ≤ h'.2.1 ∧ Met l e.1 (am_wsW e hh) (am_room d h h') (am_Pc g as h) (am_Qc g v h') (h'.1 - h.1) (h'.2.1 - h.2.1) (fun q => g.2.2 ≤ q)
theorem am_MtW.mono {l : Launch} {g : am_P} {d : Nat} {e : am_E} {hh : List (Nat × Nat × Nat × Nat)} {as : List Value} {h : am_H} {Q Q' : Option Value → am_H → Prop} (k : am_MtW l g d e hh as h Q) (f : ∀ v h', Q v h' → Q' v h') : am_MtW l g d e hh as h Q' := by
  obtain ⟨v, h', hq, r⟩ := k
  exact ⟨v, h', f v h' hq, r⟩
theorem am_ofWH {l : Launch} {y : MethodName} {ws ws' : List Cond} {rm : Room} {Pc : Array Value → State → Prop} {Qc : Array Value → State → Outcome → State → Prop} {mc ms : Nat} {free : Addr → Prop} {cc : ByteArray} {maxL : Nat} {ret : Option FieldType} {hh : List (Nat × Nat × Nat × Nat)}
    (hy : plainName y.cls = true) (hw : ws = Cond.codeWith y cc maxL ret hh :: ws')
    (body : ∀ p e s m args below meth c s₁, BodyLoose p l y (headSpec ws rm) cc maxL ret e s m args below meth c s₁ → c.maxLocals = maxL → Pc args s →
      W p l e (headSpec ws rm).room s m args below meth c s.heap [] 0 0 (MQ below Qc args s mc ms free) (entryFrame m args maxL)) : Met l y ws rm Pc Qc mc ms free := by
  refine MetFree.of_bodyS (code := cc) (maxLocals := maxL) (ret := ret) hy ?_ ?_
  · intro args s m h hn
    obtain ⟨m9, meth, c, hn9, h1, h2, h3, h4, -, h5, h6, -⟩ := Cond.codeWith_spec (atoms_spec (ws := ws) h _ (by rw [hw]; exact List.mem_cons_self))
    cases hn.symm.trans hn9
    exact ⟨meth, c, h1, h2, h3, h4, h5, h6⟩
  · intro p e s m args below meth c s₁ B hml hP _
    have hh0 : s₁.heap = s.heap := by rw [B.state]; rfl
    obtain ⟨t, a1, o, b1, b2, b3⟩ := body p e s m args below meth c s₁ B hml hP s₁ hh0 (Stand.of_body B)
    exact ⟨t, o, a1, b1, b2, ⟨b3.1, b3.2⟩⟩
theorem am_MtW.of {l : Launch} {g : am_P} {d : Nat} {e : am_E} {hh : List (Nat × Nat × Nat × Nat)} {as : List Value} {h : am_H} {Q : Option Value → am_H → Prop} {lv : am_L} (hy : plainName e.1.cls = true) (hlen : (am_sl as).length ≤ e.2.2.1) (hen : am_en e.2.2.1 as = lv) (k : am_G g l e d (fun r h' => ∃ v, r = .inl v ∧ Q v h') 0 lv [] h) : am_MtW l g d e hh as h Q := by
  subst hen
  obtain ⟨r, h', ⟨v, rfl, hq⟩, h1, h2, k⟩ := k
  refine ⟨v, h', hq, h1, h2, ?_⟩
  refine am_ofWH (cc := e.2.1) (maxL := e.2.2.1) (ret := e.2.2.2) (hh := hh) hy rfl ?_
  intro p e' s m args below meth c s₁ B hml hv
  obtain ⟨rfl, hold, hK, hF⟩ := hv
  have hx := B.exec
  have hb := B.bytes
  have hr := B.returns
  have hts0 := atoms_spec (ws := am_wsW e hh) B.pre
  have hts : ∀ w ∈ am_tbl, w.before _ s = true := fun w hw => hts0 w (List.mem_cons_of_mem _ hw)
  have hown : s.vm.findClass e.1.cls = some m.cls := findClass_of_methodNamed B.named
  have hlocks := B.notSynchronized
  have hname := (name_of_methodNamed B.named B.method).1
  have hl := lv_entry (as.map (am_tv g)) (n := e.2.2.1) (by rw [am_sl_len]; exact hlen)
  rw [lg_entry_eq]
  generalize hls : (lg_sl (as.map (am_tv g)) ++ List.replicate (e.2.2.1 - (lg_sl (as.map (am_tv g))).length) Slot.unset).toArray = ls at hl ⊢
  have hlv : am_lv g ls e.2.2.1 (am_en e.2.2.1 as) := am_entry_lv hlen hl
  refine k (p, l, e', (headSpec (am_wsW e hh) (am_room d h h')).room, s, m, (as.map (am_tv g)).toArray, below, meth, c) ⟨hx, hb, hml, hown, hlocks, hr, hts, hK, hF, Nat.le_refl _, Nat.le_refl _, hname, rfl, fun hh hm => vx_table (x := e.1) B (hts _ hm)⟩ s.heap ls [] 0 0 (MQ below (am_Qc g v h') _ s _ _ _) ⟨hold, fun _ _ => rfl, fun q hq => nomatch hq⟩ (by show am_lv g ls c.maxLocals _; rw [hml]; exact hlv) (by show 0 + _ ≤ h'.1 - h.1; omega) (by show 0 + _ ≤ h'.2.1 - h.2.1; omega) ?_
  intro H2 ls2 locs2 pc2 hS2 hd2 hrok
  have hd3 : decode e.2.1 pc2 = .ok (am_ri v, 1) := by rw [← hb]; exact hd2
  rw [Nat.zero_add, Nat.zero_add]
  exact am_retW (g := g) (v := v) (h' := h') hx hb hr hlocks hS2 hd3 hrok
/-- the handler of an E thrown at pc -/
def am_ct (own : String) (hh : List (Nat × Nat × Nat × Nat)) (pc : Nat) (E : String) (hpc : Nat) : Prop :=
  ∃ (pre : List ExceptionTableEntry) (x : ExceptionTableEntry) (suf : List ExceptionTableEntry), tableOf hh = pre ++ x :: suf ∧ (∀ z ∈ pre, covers z pc = false ∨ (z.catchType ≠ 0 ∧ ∃ nm : String, Cond.classLink own z.catchType nm ∈ am_tbl ∧ (E, nm) ∈ am_ncs)) ∧ covers x pc = true ∧ x.catchType ≠ 0 ∧ Cond.classLink own x.catchType E ∈ am_tbl ∧ Cond.castable E E ∈ am_nest ∧ x.handlerPc = hpc
section AX
variable {g : am_P} {l : Launch} {e : am_E} {d : Nat} {Q : am_R → am_H → Prop} {pc : Nat} {lv : am_L} {h : am_H}
/-- a call of a method with a table -/
theorem ag_callSW {i n : Nat} {e2 : am_E} {hh : List (Nat × Nat × Nat × Nat)} {as st rest : List Value} (hd : decode e.2.1 pc = .ok (.invokestatic i, 3)) (hm : Cond.codeWith e2.1 e2.2.1 e2.2.2.1 e2.2.2.2 hh ∈ am_tbl ∧ Cond.initialized e2.1.cls ∈ am_tbl ∧ (e2.1.cls ≠ "java/lang/invoke/MethodHandle" ∧ e2.1.cls ≠ "java/lang/invoke/VarHandle" ∧ (parseMethodDescriptor e2.1.desc).map (fun d => d.parameters.length) = some n) ∧ e2.2.2.1 ≤ 40) (hs : Cond.static e2.1 ∈ am_tbl) (hl : am_lk e.1.cls i e2) (hn : as.length = n) (hst : as.reverse ++ rest = st) (hcat : (rest.map fun v => v.category).sum ≤ 8)
    (k : am_MtW l g d e2 hh as h (fun v h' => am_G g l e (d + 1) Q (pc + 3) lv (v.toList ++ rest) h')) : am_G g l e (d + 1) Q pc lv st h := by
  subst hst
  obtain ⟨v, h2, ⟨r, h3, hq, g1, g2, kk⟩, h1, h1', hM⟩ := k
  refine ⟨r, h3, hq, Nat.le_trans h1 g1, Nat.le_trans h1' g2, ?_⟩
  rintro ⟨p, l', e', R, s, m, args, below, meth, c⟩ C H ls locs cells slots QQ hS hlv hc1 hc2 hE
  have C0 := C
  obtain ⟨hx, hb, hml, hown, -, -, hts, hK, hF, hfr, hlo, -, rfl, -⟩ := C
  have e1 : cells + (h2.1 - h.1) + (h3.1 - h2.1) = cells + (h3.1 - h.1) := by omega
  have e2' : slots + (h2.2.1 - h.2.1) + (h3.2.1 - h2.2.1) = slots + (h3.2.1 - h.2.1) := by omega
  have hc1' : cells + (h3.1 - h.1) ≤ R.cells := hc1
  have hc2' : slots + (h3.2.1 - h.2.1) ≤ R.slots := hc2
  refine am_go (x := (p, l', e', R, s, m, args, below, meth, c)) (v := v) (h2 := h2) (mc := h2.1 - h.1) (ms := h2.2.1 - h.2.1) (a := (as.map (am_tv g)).toArray) (rest := rest) hS ?_ fun H' locs' hS' => ?_
  · obtain ⟨m1, m2, m3, m4⟩ := hm
    have hg : ∀ w ∈ am_tbl, w ∈ am_tbl ∧ ((w.onTables && w.keeps) = true ∨ ∃ ty, w = .arrayClass ty) := fun w hw => ⟨hw, good_of_word (List.mem_filter.mp hw).2⟩
    have hG : GoodIn am_tbl (va_wsS e.1.cls i e2.1 (am_wsW e2 hh)) := by
      intro w hw
      rcases List.mem_append.mp hw with z | z
      · rcases List.mem_cons.mp z with rfl | z
        · exact hg _ hl
        · rcases List.mem_cons.mp z with rfl | z
          · exact hg _ hs
          · cases List.mem_singleton.mp z
            exact hg _ m2
      · rcases List.mem_cons.mp z with rfl | z
        · exact hg _ m1
        · exact hg _ z
    show va_Run _ _ _ _ _ _ _ _ _ _ _ _ _ _ _ _ _ _ _ _
    rw [am_stk0]
    exact vx_runSW (Ts := am_tbl) (own := e.1.cls) (nL := c.maxLocals) ⟨hx, hb, rfl, hown, hts⟩ hM (bytes := e2.2.1) (maxL := e2.2.2.1) (ret := e2.2.2.2) (hh := hh) (n := n)
      (vx_cwSW n hts hG rfl rfl rfl m3 (am_fits hfr hlo m4)) ⟨am_Pc_blind, am_Pc_at hS.1 hS.2.1 hK hF⟩ rfl (by rw [List.length_map]; exact hn) hlv.1 rfl
      (by show 2 * (F0 m pc ls _).monitorRoom + _ ≤ 8; exact lv_room (m := m) (pc := pc) (ls := ls) (rest := []) (am_catsum hcat)) hd ⟨by show _ ≤ R.cells; omega, by show _ ≤ R.slots; omega⟩
  · exact kk _ C0 H' ls locs' _ _ QQ hS' hlv (by rw [e1]; exact hc1) (by rw [e2']; exact hc2) (by rw [e1, e2']; exact hE)
/-- the store with which a handler begins -/
def am_hst (cc : ByteArray) (hpc k len : Nat) : Prop := (decode cc hpc = .ok (.astore k, 2) ∧ len = 2) ∨ ∃ f : Fin 4, (f : Nat) = k ∧ decode cc hpc = .ok (.astore_n f, 1) ∧ len = 1
set_option maxHeartbeats 1000000 in
theorem ag_callX {i a n : Nat} {e2 : am_E} {hh : List (Nat × Nat × Nat × Nat)} {as st rest : List Value} (hd : decode e.2.1 pc = .ok (.invokevirtual i, 3)) (hm : am_me e2 n) (hi : am_mi e2 9) (hl : am_lk e.1.cls i e2) (ha : a < h.1) (hc : (h.2.2 a).1 = 9) (hn : as.length = n) (hst : as.reverse ++ .ref a :: rest = st) (hcat : (rest.map fun v => v.category).sum ≤ 8) (hcw : Cond.codeWith e.1 e.2.1 e.2.2.1 e.2.2.2 hh ∈ am_tbl)
    (k : am_MtX l g d e2 (.ref a :: as) h (fun r h' => match r with
      | .inl v => am_G g l e (d + 1) Q (pc + 3) lv (v.toList ++ rest) h'
      | .inr E => ∃ hpc k len : Nat, am_ct e.1.cls hh pc E hpc ∧ k < e.2.2.1 ∧ am_hst e.2.1 hpc k len ∧ am_G g l e (d + 1) Q (hpc + len) (List.replicate e.2.2.1 none) [] h')) : am_G g l e (d + 1) Q pc lv st h := by
  subst hst
  obtain ⟨r, h2, kG, h1, h1', hM⟩ := k
  cases r with
  | inl v =>
    obtain ⟨r3, h3, hq, g1, g2, kk⟩ := kG
    refine ⟨r3, h3, hq, Nat.le_trans h1 g1, Nat.le_trans h1' g2, ?_⟩
    rintro ⟨p, l', e', R, s, m, args, below, meth, c⟩ C H ls locs cells slots QQ hS hlv hc1 hc2 hE
    have C0 := C
    obtain ⟨hx, hb, hml, hown, -, -, hts, hK, hF, hfr, hlo, -, rfl, -⟩ := C
    have e1 : cells + (h2.1 - h.1) + (h3.1 - h2.1) = cells + (h3.1 - h.1) := by omega
    have e2' : slots + (h2.2.1 - h.2.1) + (h3.2.1 - h2.2.1) = slots + (h3.2.1 - h.2.1) := by omega
    have hc1' : cells + (h3.1 - h.1) ≤ R.cells := hc1
    have hc2' : slots + (h3.2.1 - h.2.1) ≤ R.slots := hc2
    obtain ⟨m1, m2, m3, m4⟩ := hm
    obtain ⟨i1, i2, i3, r, i4, i5⟩ := hi
    have hrun := vx_runV (H := H) (locs := locs) (cells := cells) (slots := slots) (g := F0 m pc ls ((as.map (am_tv g)).reverse ++ am_tv g (.ref a) :: rest.map (am_tv g))) (e := e') (below := below) (meth := meth) (As := as.map (am_tv g)) (rest := rest.map (am_tv g)) (Ts := am_tbl) (own := e.1.cls) (nL := c.maxLocals) ⟨hx, hb, rfl, hown, hts⟩ hM (C := e2.1.cls) (bytes := e2.2.1) (maxL := e2.2.2.1) (ret := e2.2.2.2) (n := n)
      ⟨callB_of n hts (am_good e2 m1) rfl rfl rfl (hts _ m2) (hts _ hl) m3 (am_fits hfr hlo m4), hts _ i2, hts _ i3⟩ ⟨am_Pc_blind, i5 ▸ am_recv hS.1 hK ha hc i1 i4, am_Pc_at hS.1 hS.2.1 hK hF⟩ rfl (by rw [List.length_map]; exact hn) hlv.1 rfl
      (by show 2 * (F0 m pc ls _).monitorRoom + _ ≤ 8; exact lv_room (m := m) (pc := pc) (ls := ls) (rest := []) (am_catsum hcat)) hd ⟨by show _ ≤ R.cells; omega, by show _ ≤ R.slots; omega⟩
    rw [am_stk]
    intro T hT X
    rcases hrun T hT X with ⟨v', st₀, t, T', L, h0, X', hL, f1, f2, ⟨q1, q2, q3⟩, go⟩ | ⟨q, st₀, t, T', L, E, ce, h0, X', hL, f1, f2, ⟨q1, -⟩, -⟩
    · have q1' : v' = v.map (am_tv g) := by cases q1; rfl
      subst q1'
      have hW : s.vm.Alike t.vm := by rw [← f2]; exact X'.warmed.alike
      have hst : am_st g (p, l', e', R, s, m, args, below, meth, c) h2 T'.heap (locs ++ L) := by
        refine ⟨by rw [f1]; exact q2.moved hW.symm, fun q hq => ?_, fun q hq => ?_⟩
        · rw [f1, q3 q hq, h0]
          exact hS.2.1 q hq
        · rcases List.mem_append.mp hq with z | z
          · exact hS.2.2 q z
          · exact hL q z
      obtain ⟨t2, a1, b1⟩ := kk _ C0 T'.heap ls (locs ++ L) _ _ QQ hst hlv (by rw [e1]; exact hc1) (by rw [e2']; exact hc2) (by rw [e1, e2']; exact hE) T' rfl X'
      refine ⟨t2, go t2 ?_, b1⟩
      have e9 : (v.map (am_tv g)).toList ++ rest.map (am_tv g) = (v.toList ++ rest).map (am_tv g) := by cases v <;> simp
      rw [e9]
      exact a1
    · cases q1
  | inr E =>
    obtain ⟨hpc, kl, len, hct, hkl, hhs, r3, h3, hq, g1, g2, kk⟩ := kG
    refine ⟨r3, h3, hq, Nat.le_trans h1 g1, Nat.le_trans h1' g2, ?_⟩
    rintro ⟨p, l', e', R, s, m, args, below, meth, c⟩ C H ls locs cells slots QQ hS hlv hc1 hc2 hE
    have C0 := C
    obtain ⟨hx, hb, hml, hown, -, -, hts, hK, hF, hfr, hlo, -, rfl, hxt⟩ := C
    have e1 : cells + (h2.1 - h.1) + (h3.1 - h2.1) = cells + (h3.1 - h.1) := by omega
    have e2' : slots + (h2.2.1 - h.2.1) + (h3.2.1 - h2.2.1) = slots + (h3.2.1 - h.2.1) := by omega
    have hc1' : cells + (h3.1 - h.1) ≤ R.cells := hc1
    have hc2' : slots + (h3.2.1 - h.2.1) ≤ R.slots := hc2
    obtain ⟨m1, m2, m3, m4⟩ := hm
    obtain ⟨i1, i2, i3, r, i4, i5⟩ := hi
    have hrun := vx_runV (H := H) (locs := locs) (cells := cells) (slots := slots) (g := F0 m pc ls ((as.map (am_tv g)).reverse ++ am_tv g (.ref a) :: rest.map (am_tv g))) (e := e') (below := below) (meth := meth) (As := as.map (am_tv g)) (rest := rest.map (am_tv g)) (Ts := am_tbl) (own := e.1.cls) (nL := c.maxLocals) ⟨hx, hb, rfl, hown, hts⟩ hM (C := e2.1.cls) (bytes := e2.2.1) (maxL := e2.2.2.1) (ret := e2.2.2.2) (n := n)
      ⟨callB_of n hts (am_good e2 m1) rfl rfl rfl (hts _ m2) (hts _ hl) m3 (am_fits hfr hlo m4), hts _ i2, hts _ i3⟩ ⟨am_Pc_blind, i5 ▸ am_recv hS.1 hK ha hc i1 i4, am_Pc_at hS.1 hS.2.1 hK hF⟩ rfl (by rw [List.length_map]; exact hn) hlv.1 rfl
      (by show 2 * (F0 m pc ls _).monitorRoom + _ ≤ 8; exact lv_room (m := m) (pc := pc) (ls := ls) (rest := []) (am_catsum hcat)) hd ⟨by show _ ≤ R.cells; omega, by show _ ≤ R.slots; omega⟩
    rw [am_stk]
    intro T hT X
    rcases hrun T hT X with ⟨v', st₀, t, T', L, h0, X', hL, f1, f2, q1, go⟩ | ⟨q, st₀, t, T', L, E', ce, h0, X', hL, f1, f2, ⟨q1, q2, q3⟩, hce, hcv, hcl, go⟩
    · exact q1.elim
    · cases q1
      have hW : s.vm.Alike t.vm := by rw [← f2]; exact X'.warmed.alike
      have hst : am_st g (p, l', e', R, s, m, args, below, meth, c) h2 T'.heap (locs ++ L) := by
        refine ⟨by rw [f1]; exact q2.moved hW.symm, fun q hq => ?_, fun q hq => ?_⟩
        · rw [f1, q3 q hq, h0]
          exact hS.2.1 q hq
        · rcases List.mem_append.mp hq with z | z
          · exact hS.2.2 q z
          · exact hL q z
      obtain ⟨pre, x, suf, t1, t2, t3, t4, t5, t6, t7⟩ := hct
      have hcast : (Cond.castable E E).before args s = true := va_Nw.use rfl (hF.1 _ t6)
      have hw : vx_W p l' e' R s m args below meth c T'.heap (locs ++ L) (cells + (h2.1 - h.1)) (slots + (h2.2.1 - h.2.1)) QQ (F0 m pc ls (rest.map (am_tv g))) q := by
        refine vx_catch (own := e.1.cls) (name := E) (E := E) (ce := ce) hown pre x suf ((hxt hh hcw).trans t1) (fun z hz => (t2 z hz).imp id fun ⟨z0, nm, z1, z2⟩ => ⟨z0, nm, hts _ z1, hF.2.2.2.2.2.2.2 _ z2⟩) t3 t4 (hts _ t5) hcast (by rw [f1]; exact hce) hcv hcl ?_
        rw [t7]
        have hnext : ∀ ls' : Array Slot, ls'.size = e.2.2.1 → lv_wf ls' → W p l' e' R s m args below meth c T'.heap (locs ++ L) (cells + (h2.1 - h.1)) (slots + (h2.2.1 - h.2.1)) QQ (F0 m (hpc + len) ls' []) := fun ls' hz hwf =>
          kk (p, l', e', R, s, m, args, below, meth, c) C0 T'.heap ls' (locs ++ L) _ _ QQ hst ⟨hz.trans hml.symm, hwf, by rw [List.length_replicate]; exact hml.symm, fun i v hi => by rw [List.getElem?_replicate] at hi; split at hi <;> cases hi⟩ (by rw [e1]; exact hc1) (by rw [e2']; exact hc2) (by rw [e1, e2']; exact hE)
        have hsz : ls.size = e.2.2.1 := by rw [← hml]; exact hlv.1
        have hhas : lv_has ls e.2.2.1 [] := ⟨hsz, hlv.2.1, fun q hq => nomatch hq⟩
        rcases hhs with ⟨z1, z2⟩ | ⟨f, z0, z1, z2⟩
        · subst z2
          exact lv_astore hx hb z1 hhas hkl rfl fun ls' h' => hnext ls' h'.1 h'.2.1
        · subst z2
          exact lv_astore_n hx hb z1 z0 hhas hkl rfl fun ls' h' => hnext ls' h'.1 h'.2.1
      obtain ⟨t2', a1, b1⟩ := hw T' rfl X'
      exact ⟨t2', go.trans a1, b1⟩
end AX
