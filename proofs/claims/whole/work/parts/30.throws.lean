/-! Methods that may throw; their throws and catches. -/
section XT
variable {p : Program} {l : Launch} {e : Env} {R : Room} {s : State} {m : MethodId} {args : Array Value} {below : List Frame} {meth : Method} {c : Code} {H : Heap} {locs : List Loc} {cells slots : Nat} {ls : Array Slot} {rest : List Value} {Qc : Array Value → State → Outcome → State → Prop} {XC : String → State → State → Prop} {free : Addr → Prop}
/-- 'throw new E()', with the heap behind it told exactly (after vx_throw0) -/
theorem am_throw0 {cc : ByteArray} {pc : Nat} (hexec : p.tables.exec = Jvm.exec) (hb : c.code = cc) (hl : l.stackTraces = false) {own cls : String} {names : List String} {ik ic mc ms : Nat} {A : Nat → Prop}
    (hown : s.vm.findClass own = some m.cls) (hcls : Bundle.fit cls = true) (hnames : ∀ n ∈ names, Bundle.fit n = true)
    (hk : (Cond.classLink own ik cls).before args s = true) (hini : (Cond.initialized cls).before args s = true) (hat : ∀ w ∈ vx_at0 own ic cls names, w.before args s = true)
    (hgood : ∀ w ∈ Cond.classLink own ik cls :: Cond.initialized cls :: vx_at0 own ic cls names, vx_ot w = true)
    (hU : vx_Zq Bundle.tN "UNASSIGNED_STACK" Bundle.steD A s s.heap) (hN : vx_Zq Bundle.tN "SUPPRESSED_SENTINEL" Bundle.listD A s s.heap) (hS : va_S A s.heap H locs) (hsize : ls.size = c.maxLocals)
    (d0 : decode cc pc = .ok (.new ik, 3)) (d3 : decode cc (pc + 3) = .ok (.dup, 1)) (d4 : decode cc (pc + 4) = .ok (.invokespecial ic, 3)) (d7 : decode cc (pc + 7) = .ok (.athrow, 1))
    (hout : ∀ x ∈ c.exceptionTable.toList, covers x (pc + 7) = false)
    (hRframes : names.length + 3 < R.frames) (hRlocals : (rest.map fun v => v.category).sum + (13 * (names.length + 1) + 42) ≤ R.locals) (hRcells : cells + 1 ≤ R.cells) (hRslots : slots + 6 ≤ R.slots) (hlocks : meth.locks = false)
    (hx : ∀ t : State, s.vm.Alike t.vm → t.heap.size = H.size + 1 → (∀ q : Nat, q < H.size → t.heap[q]? = H[q]?) → XC cls s t)
    (hf : ∀ z ∈ locs, free z.base) (hc : cells + 1 ≤ mc) (hs : slots + 6 ≤ ms) :
    W p l e R s m args below meth c H locs cells slots (vx_MQ below Qc XC args s mc ms free) (F0 m pc ls rest) := by
  intro T hT X
  have htr : e.platform.stackTraces = false := (show e.platform.stackTraces = l.stackTraces by rw [X.admits.platform]).trans hl
  have Y := vx_rebase X (R' := { frames := R.frames, locals := R.locals, cells := 1, slots := 6 }) (Nat.le_refl _) (Nat.le_refl _) hRcells hRslots
  obtain ⟨s', hA⟩ : ∃ z, z = (T.setVm s.vm).setFrames (.invoking m args :: below) := ⟨_, rfl⟩
  rw [← hA] at Y
  have hvm : s'.vm = s.vm := by rw [hA]; rfl
  have hhp : s'.heap = H := by rw [hA]; exact hT
  have hW0 : s.WarmedH s'.vm := by rw [hvm]; exact State.WarmedH.refl s
  have hat' : ∀ w ∈ vx_at0 own ic cls names, w.before args s' = true := fun w hw => vx_ot_at hW0 hvm.symm (hgood w (List.mem_cons_of_mem _ (List.mem_cons_of_mem _ hw))) (hat w hw)
  have hk' : (Cond.classLink own ik cls).before args s' = true := vx_ot_at hW0 hvm.symm (hgood _ List.mem_cons_self) hk
  have hini' : (Cond.initialized cls).before args s' = true := vx_ot_at hW0 hvm.symm (hgood _ (List.mem_cons_of_mem _ List.mem_cons_self)) hini
  have hU' : vx_Zq Bundle.tN "UNASSIGNED_STACK" Bundle.steD A s' s'.heap := by rw [hhp]; exact vx_Zq.moved hW0.alike (hU.kept hS.2.1)
  have hN' : vx_Zq Bundle.tN "SUPPRESSED_SENTINEL" Bundle.listD A s' s'.heap := by rw [hhp]; exact vx_Zq.moved hW0.alike (hN.kept hS.2.1)
  have h : ∀ w ∈ Bundle.ownAtoms0 own ic cls names, w.before args s' = true := vx_own hat' (vx_isRefq hU'.1) (vx_isRefq hN'.1) hU'.2.word hN'.2.word
  have hown' : s'.vm.findClass own = some m.cls := by rw [hvm]; exact hown
  have hins : (Cond.instantiable cls 6).before args s' = true := h _ (by simp [Bundle.ownAtoms0])
  obtain ⟨vm₁, cX, kX, hfX, hkX, -, -, X₁, st1⟩ := Y.newCold hexec (own := own) (C := cls) (index := ik) (n := 6) hown' hk' hins hini'
    (g := F0 m pc ls rest) rfl (by rw [hb]; exact d0) (Nat.le_refl _) (Nat.le_refl _)
  generalize hT1 : (T.setVm vm₁).pushCell { cls := cX, slots := kX.instanceTypes.map defaultValue, vm := .none } = T1 at X₁ st1
  have hcat : (Value.ref T.heap.size).category = 1 := rfl
  have hcellA : T1.heap[T.heap.size]? = some (freshCell cX kX) := by rw [← hT1]; exact State.heap_pushCell_size _ _
  have d3' : decode c.code (pc + 3) = .ok (.dup, 1) := by rw [hb]; exact d3
  obtain ⟨U, hsteps, hrun, hend, hW, hsame, ce, hce, hO⟩ := X₁.ctorThrow0 hexec htr (own := own) (cls := cls) (names := names) (ic := ic) hown' hcls hnames h (fun x hx => nomatch hx) hfX hkX hcellA (by rw [hhp, hT]; exact Nat.le_refl _)
    (g := { method := m, pc := pc + 4, locals := ls, stack := .ref T.heap.size :: .ref T.heap.size :: rest, locked := none }) rfl hsize rfl rfl (rest := rest) rfl
    (by rw [hb]; exact d4) (by rw [hb]; exact d7) hout hRframes (by simp only [List.map_cons, List.sum_cons, hcat]; omega) hlocks
  obtain ⟨f1, f2⟩ := vx_frame hsame
  have f3 : U.heap.size ≤ s'.heap.size + (0 + 1) := hsame.2.2.1
  rw [hhp] at f1 f2 f3
  have f4 : T.heap.size < U.heap.size := (Array.getElem?_eq_some_iff.mp hce).1
  rw [hT] at f4
  have hWs : s.WarmedH U.vm := State.WarmedH.trans hW0 hW
  have hcl : s.vm.findClass cls = some ce.cls := by
    have h9 := hO.cls
    rw [hvm] at h9
    exact h9
  have hall : s.sameButNew ({ U with vm := s.vm } : State) locs mc ms := by
    subst hA
    obtain ⟨e1, e2⟩ := hsame
    rw [State.setFrames_setFrames] at e1
    have h2 : (T.setVm s.vm).sameButNew ({ U with vm := s.vm } : State) [] (0 + 1) (0 + 6) := ⟨e1, e2⟩
    have h3 := X.same.trans h2
    rw [List.append_nil] at h3
    exact h3.mono hc hs
  refine ⟨U, ?_, .threw T.heap.size, hrun, hend, Or.inr ⟨T.heap.size, rfl, cls, ce, locs, hx U hWs.alike (by omega) (fun q hq => f2 q hq (fun z hz => nomatch hz)), hce, hO.vm, hcl, hWs, hall, hf⟩⟩
  refine st1 _ ?_
  show Steps p.tables e below (T1.setTop { method := m, pc := pc + 3, locals := ls, stack := .ref T.heap.size :: rest, locked := none }) _
  jvm_step X₁.here [X₁.here.top, hexec, d3', Value.category]
  exact hsteps
end XT
def am_QX (g : am_P) (r : am_R) (h' : am_H) : Array Value → State → Outcome → State → Prop := fun a st o t => match r with
  | .inl v => am_Qc g v h' a st o t
  | .inr _ => False
def am_XC (g : am_P) (r : am_R) (h' : am_H) : String → State → State → Prop := fun E st t => r = .inr E ∧ am_hold g t h' t.heap ∧ ∀ q : Nat, q < g.2.2 → t.heap[q]? = st.heap[q]?
/-- the contract of a method that may throw -/
def am_MtX (l : Launch) (g : am_P) (d : Nat) (e : am_E) (as : List Value) (h : am_H) (Q : am_R → am_H → Prop) : Prop :=
  ∃ (r : am_R) (h' : am_H), Q r h' ∧ h.1 ≤ h'.1 ∧ h.2.1 ≤ h'.2.1 ∧ vx_Met l e.1 (am_ws e) (am_room d h h') (am_Pc g as h) (am_QX g r h') (am_XC g r h') (h'.1 - h.1) (h'.2.1 - h.2.1) (fun q => g.2.2 ≤ q)
theorem am_MtX.mono {l : Launch} {g : am_P} {d : Nat} {e : am_E} {as : List Value} {h : am_H} {Q Q' : am_R → am_H → Prop} (k : am_MtX l g d e as h Q) (f : ∀ r h', Q r h' → Q' r h') : am_MtX l g d e as h Q' := by
  obtain ⟨r, h', hq, z⟩ := k
  exact ⟨r, h', f r h' hq, z⟩
theorem am_retW {p : Program} {l : Launch} {e' : Env} {R : Room} {s : State} {m : MethodId} {args : Array Value} {below : List Frame} {meth : Method} {c : Code} {g : am_P} {cc : ByteArray} {rt : Option FieldType} {v : Option Value} {h' : am_H} {H : Heap} {ls : Array Slot} {locs : List Loc} {pc cells slots : Nat} (hx : p.tables.exec = Jvm.exec) (hb : c.code = cc) (hr : meth.sig.returnType = rt) (hlocks : meth.locks = false)
    (hS : am_st g (p, l, e', R, s, m, args, below, meth, c) h' H locs) (hd : decode cc pc = .ok (am_ri v, 1)) (hrok : am_rok rt v) : W p l e' R s m args below meth c H locs cells slots (MQ below (am_Qc g v h') args s cells slots (fun q => g.2.2 ≤ q)) (F0 m pc ls (v.toList.map (am_tv g))) := by
  have hfr : ∀ q ∈ locs, g.2.2 ≤ q.base := hS.2.2
  have hQ : ∀ t : State, t.heap = H → s.WarmedH t.vm → am_Qc g v h' args s (.returned (v.map (am_tv g))) t := fun t ht hW => ⟨rfl, by rw [ht]; exact hS.1.moved hW.alike, fun q hq => by rw [ht]; exact hS.2.1 q hq⟩
  cases v with
  | none => exact W.vret hx hb (hr.trans hrok) hQ hfr hd
  | some v =>
    cases v with
    | int z =>
      obtain ⟨ty, t1, t2⟩ := hrok
      exact W.zret hx hb (hr.trans t1) t2 hQ hfr hd
    | long z => exact W.lret hx hb (hr.trans hrok) hQ hfr hd
    | null =>
      obtain ⟨-, ty, t1, t2⟩ := hrok
      exact W.aret hx hb (hr.trans t1) t2 (Or.inl rfl) hQ hfr hd
    | ref a =>
      obtain ⟨-, ty, t1, t2⟩ := hrok
      exact W.aret hx hb (hr.trans t1) t2 (Or.inr ⟨_, rfl⟩) hQ hfr hd
    | float z => exact absurd hrok.1 (by rintro (q | ⟨a, q⟩) <;> cases q)
    | double z => exact absurd hrok.1 (by rintro (q | ⟨a, q⟩) <;> cases q)
    | retAddr z => exact absurd hrok.1 (by rintro (q | ⟨a, q⟩) <;> cases q)
theorem am_entry_lv {g : am_P} {n : Nat} {as : List Value} {ls : Array Slot} (hlen : (am_sl as).length ≤ n) (hl : lv_has ls n (lv_args 0 (as.map (am_tv g)))) : am_lv g ls n (am_en n as) := by
  refine ⟨hl.1, hl.2.1, ?_, fun i v hi => ?_⟩
  · unfold am_en
    rw [List.length_append, List.length_replicate]
    omega
  · unfold am_en at hi
    by_cases hlt : i < (am_sl as).length
    · rw [List.getElem?_append_left hlt] at hi
      have := am_sl_at g as 0 hi
      rw [Nat.zero_add] at this
      exact hl.2.2 _ this
    · rw [List.getElem?_append_right (by omega), List.getElem?_replicate] at hi
      split at hi <;> cases hi
def am_sups : List String := ["java/lang/RuntimeException", "java/lang/Exception"]
/-- what a throw by the class own asks: each word is carried by every list, or told apart -/
def am_xs (own E : String) (ik ic : Nat) : Prop := Bundle.fit E = true ∧ Cond.classLink own ik E ∈ am_tbl ∧ Cond.initialized E ∈ am_tbl ∧ (∀ w ∈ vx_at0 own ic E am_sups, w ∈ am_tbl ∨ w ∈ am_nest) ∧ ∀ w ∈ Cond.classLink own ik E :: Cond.initialized E :: vx_at0 own ic E am_sups, vx_ot w = true
set_option maxHeartbeats 1000000 in
theorem am_MtX.of {l : Launch} {g : am_P} {d : Nat} {e : am_E} {as : List Value} {h : am_H} {Q : am_R → am_H → Prop} {lv : am_L} (hls0 : l.stackTraces = false) (hy : plainName e.1.cls = true) (hlen : (am_sl as).length ≤ e.2.2.1) (hen : am_en e.2.2.1 as = lv) (hxs : ∀ E ik ic, am_xw (some e.1.cls) E ik ic → am_xs e.1.cls E ik ic) (k : am_G g l e d Q 0 lv [] h) : am_MtX l g d e as h Q := by
  subst hen
  obtain ⟨r, h', hq, h1, h2, k⟩ := k
  refine ⟨r, h', hq, h1, h2, ?_⟩
  refine vx_ofW (cc := e.2.1) (maxL := e.2.2.1) (ret := e.2.2.2) hy rfl ?_
  intro p e' s m args below meth c s₁ B hml hxt hv
  obtain ⟨rfl, hold, hK, hF⟩ := hv
  have hx := B.exec
  have hb := B.bytes
  have hr := B.returns
  have hts0 := atoms_spec (ws := am_ws e) B.pre
  have hts : ∀ w ∈ am_tbl, w.before _ s = true := fun w hw => hts0 w (List.mem_cons_of_mem _ hw)
  have hown : s.vm.findClass e.1.cls = some m.cls := findClass_of_methodNamed B.named
  have hlocks := B.notSynchronized
  have hname := (name_of_methodNamed B.named B.method).1
  have hl := lv_entry (as.map (am_tv g)) (n := e.2.2.1) (by rw [am_sl_len]; exact hlen)
  rw [lg_entry_eq]
  generalize hls : (lg_sl (as.map (am_tv g)) ++ List.replicate (e.2.2.1 - (lg_sl (as.map (am_tv g))).length) Slot.unset).toArray = ls at hl ⊢
  have hlv : am_lv g ls e.2.2.1 (am_en e.2.2.1 as) := am_entry_lv hlen hl
  refine k (p, l, e', (headSpec (am_ws e) (am_room d h h')).room, s, m, (as.map (am_tv g)).toArray, below, meth, c) ⟨hx, hb, hml, hown, hlocks, hr, hts, hK, hF, Nat.le_refl _, Nat.le_refl _, hname, rfl, fun hh hm => vx_table (x := e.1) B (hts _ hm)⟩ s.heap ls [] 0 0 (vx_MQ below (am_QX g r h') (am_XC g r h') _ s _ _ _) ⟨hold, fun _ _ => rfl, fun q hq => nomatch hq⟩ (by show am_lv g ls c.maxLocals _; rw [hml]; exact hlv) (by show 0 + _ ≤ h'.1 - h.1; omega) (by show 0 + _ ≤ h'.2.1 - h.2.1; omega) ?_
  cases r with
  | inl v =>
    intro H2 ls2 locs2 pc2 hS2 hd2 hrok
    have hd3 : decode e.2.1 pc2 = .ok (am_ri v, 1) := by rw [← hb]; exact hd2
    rw [Nat.zero_add, Nat.zero_add]
    refine vx_ret ?_
    exact am_retW (g := g) (v := v) (h' := h') hx hb hr hlocks hS2 hd3 hrok
  | inr E =>
    intro h0 H2 ls2 locs2 pc2 ik ic c0 s0 rest2 hh2 hS2 hsz d0 d3 d4 d7 hxw hcat ec es
    obtain ⟨x1, x2, x3, x4, x5⟩ := hxs E ik ic hxw
    have hd : ∀ q : Nat, decode e.2.1 q = decode c.code q := fun q => by rw [hb]
    have hc9 : c0 + 1 = 0 + (h'.1 - h.1) := ec.symm
    have hs9 : s0 + 6 = 0 + (h'.2.1 - h.2.1) := es.symm
    refine am_throw0 (cc := e.2.1) (own := e.1.cls) (cls := E) (names := am_sups) (ik := ik) (ic := ic) (A := am_A g) hx hb hls0 hown x1 (by decide) (hts _ x2) (hts _ x3) (fun w hw => (x4 w hw).elim (hts w) fun hn => ?_) x5 hF.2.2.2.2.2.1 hF.2.2.2.2.2.2.1 ⟨?_, fun q _ hq => hS2.2.1 q (Nat.not_le.mp hq), hS2.2.2⟩ hsz (by rw [hd]; exact d0) (by rw [hd]; exact d3) (by rw [hd]; exact d4) (by rw [hd]; exact d7) (fun z hz => (hxt z hz).elim) ?_ ?_ ?_ ?_ hlocks ?_ hS2.2.2 ?_ ?_
    · have h9 := hF.1 w hn
      unfold am_nest at hn
      have hf := (List.mem_filter.mp hn).2
      cases w <;> first | exact absurd hf Bool.false_ne_true | exact va_Nw.use rfl h9
    · have a1 := hold.2.1
      have a2 := hS2.1.2.1
      have e9 : h'.1 = h0.1 + 1 := by rw [hh2]; rfl
      omega
    · show am_sups.length + 3 < am_fr d
      unfold am_fr
      show 2 + 3 < d + 16
      omega
    · show _ ≤ am_lo d
      unfold am_lo
      show _ + (13 * (2 + 1) + 42) ≤ _
      omega
    · show c0 + 1 ≤ h'.1 - h.1
      omega
    · show s0 + 6 ≤ h'.2.1 - h.2.1
      omega
    · intro t ht hsz9 hq9
      refine ⟨rfl, ?_, fun q hq => ?_⟩
      · rw [hh2]
        refine am_hold_nw (hS2.1.moved ht) hsz9 hq9 ⟨fun q => absurd q (by decide), fun ty hty => ?_⟩
        cases hty
      · rw [hq9 q (by have := hS2.1.2.1; have := hS2.1.1; omega)]
        exact hS2.2.1 q hq
    · omega
    · omega
