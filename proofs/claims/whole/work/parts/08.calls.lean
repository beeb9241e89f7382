/-! Returns, contracts, calls. -/
def am_ws (e : am_E) : List Cond := Cond.code e.1 e.2.1 e.2.2.1 e.2.2.2 :: am_tbl
def am_Pc (g : am_P) (as : List Value) (h : am_H) : Array Value → State → Prop := fun a U => a = (as.map (am_tv g)).toArray ∧ am_hold g U h U.heap ∧ va_K g.1 vwCl [] U ∧ am_F g U
def am_Qc (g : am_P) (v : Option Value) (h' : am_H) : Array Value → State → Outcome → State → Prop := fun _ st o t => o = .returned (v.map (am_tv g)) ∧ am_hold g t h' t.heap ∧ ∀ q : Nat, q < g.2.2 → t.heap[q]? = st.heap[q]?
def am_room (d : Nat) (h h' : am_H) : Room := { frames := am_fr d, cells := h'.1 - h.1, slots := h'.2.1 - h.2.1, locals := am_lo d }
/-- a method's contract: from the heap h it ends with v and h' -/
def am_Mt (l : Launch) (g : am_P) (d : Nat) (e : am_E) (as : List Value) (h : am_H) (Q : Option Value → am_H → Prop) : Prop :=
  ∃ (v : Option Value) (h' : am_H), Q v h' ∧ h.1 ≤ h'.1 ∧ h.2.1 ≤ h'.2.1 ∧ Met l e.1 (am_ws e) (am_room d h h') (am_Pc g as h) (am_Qc g v h') (h'.1 - h.1) (h'.2.1 - h.2.1) (fun q => g.2.2 ≤ q)
theorem am_Mt.mono {l : Launch} {g : am_P} {d : Nat} {e : am_E} {as : List Value} {h : am_H} {Q Q' : Option Value → am_H → Prop} (k : am_Mt l g d e as h Q) (f : ∀ v h', Q v h' → Q' v h') : am_Mt l g d e as h Q' := by
  obtain ⟨v, h', hq, r⟩ := k
  exact ⟨v, h', f v h' hq, r⟩
/-- the locals at a method's entry -/
def am_sl : List Value → am_L
  | [] => []
  | v :: vs => if v.category = 2 then some v :: none :: am_sl vs else some v :: am_sl vs
def am_en (n : Nat) (as : List Value) : am_L := am_sl as ++ List.replicate (n - (am_sl as).length) none
theorem am_sl_len (g : am_P) : ∀ as : List Value, (lg_sl (as.map (am_tv g))).length = (am_sl as).length
  | [] => rfl
  | v :: vs => by
    have ih := am_sl_len g vs
    show ((if (am_tv g v).category = 2 then [Slot.val (am_tv g v), Slot.second] else [Slot.val (am_tv g v)]) ++ lg_sl (vs.map (am_tv g))).length = _
    rw [List.length_append, ih, am_tv_cat]
    simp only [am_sl]
    split <;> simp <;> omega
theorem am_isArr_moved {u U : State} (hvm : u.vm.Alike U.vm) {cell : Cell} {ty : FieldType} (h : u.isArrayOf cell ty) : U.isArrayOf cell ty := State.isArrayOf_alike hvm h
theorem am_ra.moved {u U : State} (hvm : u.vm.Alike U.vm) {cA : ClassId} {ty : FieldType} (h : am_ra u cA ty) : am_ra U cA ty := by
  cases ty with
  | object C =>
    obtain ⟨kA, comp, h1, h2, h3⟩ := h
    obtain ⟨k', hk', he⟩ := hvm.2.2 _ _ h1
    exact ⟨k', comp, hk', by rw [he]; exact h2, by rw [hvm.findClass]; exact h3⟩
  | _ => trivial
theorem am_cell.moved {g : am_P} {u U : State} {H : Heap} {a : Nat} {c : am_C} (hvm : u.vm.Alike U.vm) (h : am_cell g u H a c) : am_cell g U H a c := by
  refine ⟨h.1, fun ty hty => ?_⟩
  obtain ⟨cell, h1, h2, h3, h4, h5, h6, h7⟩ := h.2 ty hty
  exact ⟨cell, h1, am_isArr_moved hvm h2, h3, h4, h5, h6, h7.moved hvm⟩
theorem am_hold.moved {g : am_P} {u U : State} {h : am_H} {H : Heap} (hvm : u.vm.Alike U.vm) (hh : am_hold g u h H) : am_hold g U h H := ⟨hh.1, hh.2.1, hh.2.2.1, fun a ha => (hh.2.2.2 a ha).moved hvm⟩
theorem am_AOA.moved {u U : State} (hvm : u.vm.Alike U.vm) (h : va_AOA .int u) : va_AOA .int U := by
  unfold va_AOA Cond.before Cond.holds at h ⊢
  simp only [Cond.value, beq_iff_eq] at h ⊢
  obtain ⟨comp, h1, h⟩ := Option.bind_eq_some_iff.mp h
  obtain ⟨c, h2, h⟩ := Option.bind_eq_some_iff.mp h
  obtain ⟨k, h3, h⟩ := Option.map_eq_some_iff.mp h
  obtain ⟨k', hk', he⟩ := hvm.2.2 _ _ h3
  refine Option.bind_eq_some_iff.mpr ⟨comp, by rw [hvm.findClass]; exact h1, Option.bind_eq_some_iff.mpr ⟨c, ?_, Option.map_eq_some_iff.mpr ⟨k', hk', ?_⟩⟩⟩
  · have hbe : U.vm.bare = u.vm.bare := by first | exact hvm.bare_eq | exact hvm.bare_eq.symm
    have e1 := va_idx_bare U.vm comp
    rw [hbe] at e1
    exact e1.symm.trans ((va_idx_bare u.vm comp).trans h2)
  · rw [he, hvm.findClass]
    exact h
theorem am_F.moved {g : am_P} {u U : State} (hW : u.WarmedH U.vm) (hH : ∀ a : Nat, a < u.heap.size → ¬ am_A g a → U.heap[a]? = u.heap[a]?) (h : am_F g u) : am_F g U := by
  obtain ⟨h1, h2, h3, h4, h5, h6, h7, h8⟩ := h
  refine ⟨fun w hw => ?_, h2.moved hW.alike, h3.moved hW.alike, h4.moved hW.alike, am_AOA.moved hW.alike h5, vx_Zq.moved hW.alike (h6.kept hH), vx_Zq.moved hW.alike (h7.kept hH), fun q hq => (h8 q hq).moved hW.alike⟩
  have h9 := h1 w hw
  unfold am_nest at hw
  have hf := (List.mem_filter.mp hw).2
  cases w <;> first | exact va_Nw.warmM hW h9 | exact va_Nw.warmD hW h9 | exact va_Nw.warmC hW h9 | exact absurd hf Bool.false_ne_true
/-- any state with the same tables and heap -/
theorem am_F.same {g : am_P} {u U : State} (hvm : u.vm = U.vm) (hh : U.heap = u.heap) (h : am_F g u) : am_F g U := by
  have ha : u.vm.Alike U.vm := by rw [hvm]; exact Vm.Alike.refl _
  obtain ⟨h1, h2, h3, h4, h5, h6, h7, h8⟩ := h
  refine ⟨fun w hw => ?_, h2.moved ha, h3.moved ha, h4.moved ha, am_AOA.moved ha h5, by rw [hh]; exact vx_Zq.moved ha h6, by rw [hh]; exact vx_Zq.moved ha h7, fun q hq => (h8 q hq).moved ha⟩
  have h9 := h1 w hw
  unfold am_nest at hw
  have hf := (List.mem_filter.mp hw).2
  cases w <;> first | exact absurd hf Bool.false_ne_true | exact va_Nw.same rfl hvm h9
theorem am_sl_at {i : Nat} {v : Value} (g : am_P) : ∀ (as : List Value) (k : Nat), (am_sl as)[i]? = some (some v) → (k + i, am_tv g v) ∈ lv_args k (as.map (am_tv g)) := by
  intro as
  induction as generalizing i with
  | nil => intro k h; cases h
  | cons w ws ih =>
    intro k h
    simp only [am_sl] at h
    simp only [List.map_cons, lv_args, am_tv_cat]
    split at h
    · rename_i hc
      rw [if_pos hc]
      cases i with
      | zero => cases h; exact List.mem_cons_self
      | succ i =>
        cases i with
        | zero => cases h
        | succ i =>
          have := ih (k + 2) h
          rw [show k + (i + 1 + 1) = k + 2 + i by omega]
          exact List.mem_cons_of_mem _ this
    · rename_i hc
      rw [if_neg hc]
      cases i with
      | zero => cases h; exact List.mem_cons_self
      | succ i =>
        have := ih (k + 1) h
        rw [show k + (i + 1) = k + 1 + i by omega]
        exact List.mem_cons_of_mem _ this
section AK
variable {g : am_P} {l : Launch} {e : am_E} {d : Nat} {Q : am_R → am_H → Prop} {pc : Nat} {lv : am_L} {st : List Value} {h : am_H}
/-- a return -/
theorem ag_ret {v : Option Value} (hd : decode e.2.1 pc = .ok (am_ri v, 1)) (hr : am_rok e.2.2.2 v) (hq : Q (.inl v) h) (hs : v.toList = st) : am_G g l e d Q pc lv st h := by
  subst hs
  refine ⟨.inl v, h, hq, Nat.le_refl _, Nat.le_refl _, ?_⟩
  rintro ⟨p, l', e', R, s, m, args, below, meth, c⟩ ⟨hx, hb, hml, hown, -, -, hts, hK, -⟩ H ls locs cells slots QQ hS hl hc hc2 hE
  rw [Nat.sub_self, Nat.sub_self] at hE
  exact hE H ls locs pc hS (by show decode c.code pc = _; rw [hb]; exact hd) hr
/-- the walk of a body gives its contract -/
theorem am_Mt.of {as : List Value} {Q : Option Value → am_H → Prop} (hy : plainName e.1.cls = true) (hlen : (am_sl as).length ≤ e.2.2.1) (k : am_G g l e d (fun r h' => ∃ v, r = .inl v ∧ Q v h') 0 (am_en e.2.2.1 as) [] h) : am_Mt l g d e as h Q := by
  obtain ⟨r, h', ⟨v, rfl, hq⟩, h1, h2, k⟩ := k
  refine ⟨v, h', hq, h1, h2, ?_⟩
  refine Met.ofW (cc := e.2.1) (maxL := e.2.2.1) (ret := e.2.2.2) hy rfl ?_
  intro p e' s m args below meth c s₁ B hml hv
  obtain ⟨rfl, hold, hK, hF⟩ := hv
  have hx := B.exec
  have hb := B.bytes
  have hr := B.returns
  have hts0 := atoms_spec (ws := am_ws e) B.pre
  have hts : ∀ w ∈ am_tbl, w.before _ s = true := fun w hw => hts0 w (List.mem_cons_of_mem _ hw)
  have hown : s.vm.findClass e.1.cls = some m.cls := findClass_of_methodNamed B.named
  have hlocks := B.notSynchronized
  have hname := (name_of_methodNamed B.named B.method).1
  have hl := lv_entry (as.map (am_tv g)) (n := e.2.2.1) (by rw [am_sl_len]; exact hlen)
  rw [lg_entry_eq]
  generalize hls : (lg_sl (as.map (am_tv g)) ++ List.replicate (e.2.2.1 - (lg_sl (as.map (am_tv g))).length) Slot.unset).toArray = ls at hl ⊢
  have hlv : am_lv g ls e.2.2.1 (am_en e.2.2.1 as) := by
    refine ⟨hl.1, hl.2.1, ?_, fun i v hi => ?_⟩
    · unfold am_en
      rw [List.length_append, List.length_replicate]
      omega
    · unfold am_en at hi
      by_cases hlt : i < (am_sl as).length
      · rw [List.getElem?_append_left hlt] at hi
        have := am_sl_at g as 0 hi
        rw [Nat.zero_add] at this
        exact hl.2.2 _ this
      · rw [List.getElem?_append_right (by omega), List.getElem?_replicate] at hi
        split at hi <;> cases hi
  refine k (p, l, e', (headSpec (am_ws e) (am_room d h h')).room, s, m, (as.map (am_tv g)).toArray, below, meth, c) ⟨hx, hb, hml, hown, hlocks, hr, hts, hK, hF, Nat.le_refl _, Nat.le_refl _, hname, rfl, fun hh hm => vx_table (x := e.1) B (hts _ hm)⟩ s.heap ls [] 0 0 (MQ below (am_Qc g v h') _ s _ _ _) ⟨hold, fun _ _ => rfl, fun q hq => nomatch hq⟩ (by show am_lv g ls c.maxLocals _; rw [hml]; exact hlv) (by show 0 + _ ≤ h'.1 - h.1; omega) (by show 0 + _ ≤ h'.2.1 - h.2.1; omega) ?_
  intro H2 ls2 locs2 pc2 hS2 hd2 hrok
  have hd3 : decode e.2.1 pc2 = .ok (am_ri v, 1) := by rw [← hb]; exact hd2
  have hfr : ∀ q ∈ locs2, g.2.2 ≤ q.base := hS2.2.2
  have hQ : ∀ t : State, t.heap = H2 → s.WarmedH t.vm → am_Qc g v h' (as.map (am_tv g)).toArray s (.returned (v.map (am_tv g))) t := fun t ht hW => ⟨rfl, by rw [ht]; exact hS2.1.moved hW.alike, fun q hq => by rw [ht]; exact hS2.2.1 q hq⟩
  rw [Nat.zero_add, Nat.zero_add]
  cases v with
  | none => exact W.vret hx hb (hr.trans hrok) hQ hfr hd3
  | some v =>
    cases v with
    | int z =>
      obtain ⟨ty, t1, t2⟩ := hrok
      exact W.zret hx hb (hr.trans t1) t2 hQ hfr hd3
    | long z => exact W.lret hx hb (hr.trans hrok) hQ hfr hd3
    | null =>
      obtain ⟨-, ty, t1, t2⟩ := hrok
      exact W.aret hx hb (hr.trans t1) t2 (Or.inl rfl) hQ hfr hd3
    | ref a =>
      obtain ⟨-, ty, t1, t2⟩ := hrok
      exact W.aret hx hb (hr.trans t1) t2 (Or.inr ⟨_, rfl⟩) hQ hfr hd3
    | float z => exact absurd hrok.1 (by rintro (q | ⟨a, q⟩) <;> cases q)
    | double z => exact absurd hrok.1 (by rintro (q | ⟨a, q⟩) <;> cases q)
    | retAddr z => exact absurd hrok.1 (by rintro (q | ⟨a, q⟩) <;> cases q)
end AK
