/-! From the law's walk over typed heaps to the judgement that the skeleton asks. -/
/-- the heap at the law's entry: the script alone -/
def cIni (L : Nat) (xs : Nat → Int32) : cS := (1, 0, fun _ => (20, L), fun _ i => xs i, fun _ _ => 0, fun _ _ => none)
def am_lawname (w : Cond) : Bool := match w with
  | .codeWith y _ _ _ _ => y != yL_law
  | _ => true
theorem am_lawname_ok : lw_tbl.all am_lawname = true := by decide +kernel
theorem am_law_table (hh : List (Nat × Nat × Nat × Nat)) (h : Cond.codeWith eL_law.1 eL_law.2.1 eL_law.2.2.1 eL_law.2.2.2 hh ∈ am_tbl) : False := by
  have k := List.all_eq_true.mp am_lawname_ok _ (List.mem_filter.mp h).1
  simp [am_lawname] at k
theorem am_known {args : Array Value} {s : State} (hts : ∀ w ∈ am_tbl, w.before args s = true) : ∃ D : va_G, va_K D vwCl [] s := by
  obtain ⟨c0, i0, k0⟩ := u_known (C := RX0) (T := TX0) (N := 6) hts cl_0.2.2.1 (hts _ nw_9_39.2.2.1)
  obtain ⟨c1, i1, k1⟩ := u_known (C := RX1) (T := TX1) (N := 7) hts cl_1.2.2.1 (hts _ nw_9_22.2.2.1)
  obtain ⟨c2, i2, k2⟩ := u_known (C := RX2) (T := TX2) (N := 4) hts cl_2.2.2.1 (hts _ nw_1_9.2.2.1)
  obtain ⟨c3, i3, k3⟩ := u_known (C := RX3) (T := TX3) (N := 5) hts cl_3.2.2.1 (hts _ nw_9_16.2.2.1)
  obtain ⟨c4, i4, k4⟩ := u_known (C := RX4) (T := TX4) (N := 6) hts cl_4.2.2.1 (hts _ nw_9_165.2.2.1)
  obtain ⟨c5, i5, k5⟩ := u_known (C := RX5) (T := TX5) (N := 7) hts cl_5.2.2.1 (hts _ nw_6_90.2.2.1)
  obtain ⟨c6, i6, k6⟩ := u_known (C := RX6) (T := TX6) (N := 8) hts cl_6.2.2.1 (hts _ nw_9_75.2.2.1)
  obtain ⟨c7, i7, k7⟩ := u_known (C := RX7) (T := TX7) (N := 2) hts cl_7.2.2.1 (hts _ nw_9_9.2.2.1)
  obtain ⟨c8, i8, k8⟩ := u_known (C := RX8) (T := TX8) (N := 2) hts cl_8.2.2.1 (hts _ nw_9_29.2.2.1)
  obtain ⟨c9, i9, k9⟩ := u_known (C := RX9) (T := TX9) (N := 12) hts cl_9.2.2.1 (hts _ nw_L_8.2.2.1)
  obtain ⟨c10, i10, k10⟩ := u_known (C := RX10) (T := TX10) (N := 59) hts cl_10.2.2.1 (hts _ nw_L_49.2.2.1)
  refine ⟨(fun c => ([c0, c1, c2, c3, c4, c5, c6, c7, c8, c9, c10] : List ClassId).getD c 0, fun c => ([i0, i1, i2, i3, i4, i5, i6, i7, i8, i9, i10] : List (Nat → Nat)).getD c (fun _ => 0)), fun c q hq => ?_, fun k q hk => by simp at hk⟩
  match c, hq with
  | 0, hq => cases hq; exact k0
  | 1, hq => cases hq; exact k1
  | 2, hq => cases hq; exact k2
  | 3, hq => cases hq; exact k3
  | 4, hq => cases hq; exact k4
  | 5, hq => cases hq; exact k5
  | 6, hq => cases hq; exact k6
  | 7, hq => cases hq; exact k7
  | 8, hq => cases hq; exact k8
  | 9, hq => cases hq; exact k9
  | 10, hq => cases hq; exact k10
  | n + 11, hq => simp at hq
theorem am_F_start {g : am_P} {args : Array Value} {s : State} (hg : g.2.2 = s.heap.size) (hts : ∀ w ∈ lw_tbl, w.before args s = true) (hgv : (Jvm.Cond.and given_1 narrow_1).before args s = true) : am_F g s := by
  have hA : ∀ a : Nat, a < s.heap.size → ¬ am_A g a := fun a ha h => by
    have : g.2.2 ≤ a := h
    omega
  have hs := flat_of_before _ hgv
  refine ⟨fun w hw => ?_, va_AO.of (hts _ (List.mem_of_getElem? (i := 133) (by decide +kernel))), va_AO.of (hts _ (List.mem_of_getElem? (i := 125) (by decide +kernel))), va_AO.of (hts _ (List.mem_of_getElem? (i := 135) (by decide +kernel))), hts (.arrayOver (.array .int)) (List.mem_of_getElem? (i := 837) (by decide +kernel)), vx_Zqof (hts _ (List.mem_of_getElem? (i := 490) (by decide +kernel))) (hts _ (List.mem_of_getElem? (i := 92) (by decide +kernel))) (hs _ (by decide +kernel)) hA, vx_Zqof (hts _ (List.mem_of_getElem? (i := 492) (by decide +kernel))) (hts _ (List.mem_of_getElem? (i := 92) (by decide +kernel))) (hs _ (by decide +kernel)) hA, fun q hq => ?_⟩
  · have h9 := hts w (List.mem_filter.mp hw).1
    unfold am_nest at hw
    have hf := (List.mem_filter.mp hw).2
    cases w <;> first | exact absurd hf Bool.false_ne_true | exact va_Nw.of rfl h9
  · simp only [am_ncs, List.mem_cons, List.not_mem_nil, or_false] at hq
    rcases hq with rfl | rfl | rfl | rfl | rfl <;> exact va_Nc.of (hs _ (by decide +kernel))
def R_law : String := "TypedLispLaw"
def lw_P (b : Addr) (xs : List Int32) (args : Array Value) (s : State) : Prop := args = #[.ref b] ∧ s.IntsAt b xs ∧ xs.length ≤ 256 ∧ (Jvm.Cond.and given_1 narrow_1).before args s = true
def lw_Q (_ : Array Value) (s : State) (o : Outcome) (t : State) : Prop := o = .returned (some (.int 1)) ∧ Framed s o t [] 600128 7301098
def lw_Z (below : List Frame) (a : Array Value) (s : State) : State → Prop := fun t => ∃ o, t.status = .running ∧ Ended t below o ∧ lw_Q a s o t
/-- the law's own end, with 1 on the stack, nothing written that was there before, its room as the claim has it -/
theorem lw_ret {p : Program} {l : Launch} {e : Env} {s : State} {m : MethodId} {below : List Frame} {meth : Method} {c : Code} {b : Nat} (hx : p.tables.exec = Jvm.exec) (hb : c.code = code) (hr : meth.sig.returnType = ret) (hlocks : meth.locks = false) {pc : Nat} {H : Heap} {ls : Array Slot} (hdg : decode code pc = .ok (.ireturn, 1)) : W p l e room_1 s m #[Value.ref b] below meth c H [] 600128 7301098 (lw_Z below #[Value.ref b] s) (F0 m pc ls [.int 1]) := by
  intro T hT X
  obtain ⟨fs, hret, hrun, hended, hW, hframe⟩ := X.leave (v := some (.int 1)) (hlocks := hlocks) (fun h => by rw [hr] at h; cases h)
  have hmeth' : T.vm.method? m = some meth := X.method'
  refine ⟨T.setFrames fs, ?_, .returned (some (.int 1)), hrun, hended, rfl, ⟨_, rfl⟩, hW, hframe⟩
  jvm_step X.here [X.here.top, hx, hb, hdg, hmeth', hr, ret, narrow_b1]
  (try refine ⟨rfl, ?_⟩); (try refine ⟨rfl, ?_⟩)
  first | (intro acts; rw [hret _ acts rfl rfl rfl]) | rw [hret _ _ rfl rfl rfl]
  exact Steps.refl _
/-- what holds at the law's entry (the skeleton's lw_At, with the method's name) -/
def lw_At (p : Program) (s : State) (m : MethodId) (meth : Method) (c : Code) (b L : Nat) (xs : Nat → Int32) : Prop :=
  p.tables.exec = Jvm.exec ∧ c.code = code ∧ meth.sig.returnType = ret ∧ c.maxLocals = 7 ∧ s.vm.findClass R_law = some m.cls ∧ (∀ w ∈ lw_tbl, w.before #[Value.ref b] s = true) ∧ va_X b L xs s s.heap ∧ b < s.heap.size ∧ meth.locks = false ∧ (Jvm.Cond.and given_1 narrow_1).before #[Value.ref b] s = true ∧ meth.name = "law"
/-- what the law comes to -/
def lw_K : Option Value → cS → Prop := fun v C' => v = some (.int 1) ∧ C'.1 ≤ 600129 ∧ C'.2.1 ≤ 7301098
set_option maxHeartbeats 1000000 in
/-- the law's walk over typed heaps gives the walk of its body -/
theorem am_whole {p : Program} {e : Env} {s : State} {m : MethodId} {below : List Frame} {meth : Method} {c : Code} (l : Launch) {b L d : Nat} {xs : Nat → Int32} (hL : L ≤ 256) (hd : d ≤ 1300) (C0 : lw_At p s m meth c b L xs) (hk : ∀ g : am_P, cG (g, l) eL_law d (cQ lw_K) 0 [some (.ref 0), none, none, none, none, none, none] [] (cIni L xs)) : W p l e room_1 s m #[Value.ref b] below meth c s.heap [] 0 0 (lw_Z below #[Value.ref b] s) (entryFrame m ([Value.ref b] : List Value).toArray 7) := by
  obtain ⟨hx, hb, hr, hml, hown, hts, hX, hbl, hlocks, hgv, hname⟩ := C0
  have hta : ∀ w ∈ am_tbl, w.before #[Value.ref b] s = true := fun w hw => hts w (List.mem_filter.mp hw).1
  obtain ⟨D, hK⟩ := am_known hta
  obtain ⟨r, h', ⟨v, rfl, C', rfl, rfl, hc1, hc2⟩, h1, h2, k⟩ := hk (D, b, s.heap.size)
  have hF : am_F (D, b, s.heap.size) s := am_F_start rfl hts hgv
  have hl := lv_entry ([Value.ref b]) (n := 7) (Nat.le_of_ble_eq_true rfl)
  rw [lg_entry_eq]
  generalize (lg_sl ([Value.ref b]) ++ List.replicate (7 - (lg_sl ([Value.ref b])).length) Slot.unset).toArray = ls at hl ⊢
  have hlv : am_lv (D, b, s.heap.size) ls 7 [some (.ref 0), none, none, none, none, none, none] := by
    have h9 := am_entry_lv (g := (D, b, s.heap.size)) (n := 7) (as := [.ref 0]) (ls := ls) (by decide) hl
    exact h9
  have hhold : am_hold (D, b, s.heap.size) s (cH (cIni L xs)) s.heap := by
    refine ⟨Nat.le_refl _, rfl, hbl, fun a ha => ?_⟩
    have ha0 : a = 0 := by have : a < 1 := ha; omega
    subst ha0
    obtain ⟨scr, x1, x2, x3, x4, x5⟩ := hX
    refine ⟨fun q => absurd q (show ¬ 20 < 11 by decide), fun ty hty => ⟨scr, x1, ?_, x3, x4, show L < 2 ^ 31 by omega, fun j hj => x5 j hj, ?_⟩⟩
    · cases hty
      exact x2
    · cases hty
      trivial
  have hres := k (p, l, e, room_1, s, m, #[Value.ref b], below, meth, c) ⟨hx, hb, hml, hown, hlocks, hr, hta, hK, hF, by show d + 16 ≤ 2048; omega, by show 60 * d + 400 ≤ 84000; omega, hname, rfl, fun hh hm => (am_law_table hh hm).elim⟩ s.heap ls [] 0 0 (lw_Z below #[Value.ref b] s) ⟨hhold, fun _ _ => rfl, fun q hq => nomatch hq⟩ (by show am_lv _ ls c.maxLocals _; rw [hml]; exact hlv) (by show 0 + (C'.1 - 1) ≤ 600128; omega) (by show 0 + (C'.2.1 - 0) ≤ 7301098; omega) ?_
  · exact hres
  · intro H2 ls2 locs2 pc2 hS2 hd2 hrok
    have hd3 : decode code pc2 = .ok (.ireturn, 1) := by rw [← hb]; exact hd2
    show W p l e room_1 s m #[Value.ref b] below meth c H2 locs2 (0 + (C'.1 - 1)) (0 + (C'.2.1 - 0)) (lw_Z below #[Value.ref b] s) (F0 m pc2 ls2 [.int 1])
    refine va_forget hS2.2.2 ?_
    refine W.widen (k := 600128) (n := 7301098) (by omega) (by omega) ?_
    exact lw_ret hx hb hr hlocks hd3
