/-! The judgement over abstract states, and rows for instructions that don't touch the heap. -/
def am_tbl : List Cond := lw_tbl.filter goodWord
def am_aty : Nat → Option FieldType
  | 20 => some .int
  | 21 => some .long
  | 22 => some .boolean
  | 23 => some .char
  | 24 => some (.array .int)
  | 25 => some (.object "TypedLisp$Finding")
  | 26 => some (.object "TypedLisp$Function")
  | 27 => some (.object "TypedLisp$View")
  | _ => none
/-- an array of objects: its class's component is the class of that name -/
def am_ra (U : State) (cA : ClassId) : FieldType → Prop
  | .object C => ∃ (kA : Class) (comp : ClassId), U.vm.classes[cA]? = some kA ∧ kA.kind = .array comp (.object C) ∧ U.vm.findClass C = some comp
  | _ => True
def am_cell (g : am_P) (U : State) (H : Heap) (a : Nat) (c : am_C) : Prop :=
  (c.1 < 11 → ∃ r : vw_C, vwCl[c.1]? = some r ∧ c.2.1 = r.2.2 ∧ t_OB (am_ad g a) (g.1.1 c.1) r.2.2 (g.1.2 c.1) H (fun k => am_tv g (c.2.2 k))) ∧
  (∀ ty : FieldType, am_aty c.1 = some ty → ∃ cell : Cell, H[am_ad g a]? = some cell ∧ U.isArrayOf cell ty ∧ cell.vm ≠ .unknown ∧ cell.slots.size = c.2.1 ∧ c.2.1 < 2 ^ 31 ∧ (∀ j : Nat, j < c.2.1 → cell.slots[j]? = some (am_tv g (c.2.2 j))) ∧ am_ra U cell.cls ty)
def am_hold (g : am_P) (U : State) (h : am_H) (H : Heap) : Prop := 1 ≤ h.1 ∧ H.size + 1 = g.2.2 + h.1 ∧ g.2.1 < g.2.2 ∧ ∀ a : Nat, a < h.1 → am_cell g U H a (h.2.2 a)
def am_nest : List Cond := lw_tbl.filter fun w => match w with
  | .methodLinkNest _ _ _ _ => true
  | .declares _ => true
  | .castable _ _ => true
  | _ => false
/-- the new cells -/
def am_A (g : am_P) : Nat → Prop := fun q => g.2.2 ≤ q
/-- kinds of thrown things that no handler for another kind takes -/
def am_ncs : List (String × String) := [("java/lang/UnsupportedOperationException", "java/lang/IllegalArgumentException"), ("java/lang/IndexOutOfBoundsException", "java/util/NoSuchElementException"), ("java/lang/IllegalStateException", "java/lang/IllegalArgumentException"), ("java/lang/IllegalArgumentException", "java/lang/IndexOutOfBoundsException"), ("java/lang/IllegalArgumentException", "java/util/NoSuchElementException")]
/-- words of the tables that no callee's list carries -/
def am_F (g : am_P) (U : State) : Prop := (∀ w ∈ am_nest, va_Nw w U) ∧ va_AO "TypedLisp$Finding" U ∧ va_AO "TypedLisp$Function" U ∧ va_AO "TypedLisp$View" U ∧ va_AOA .int U ∧ vx_Zq Bundle.tN "UNASSIGNED_STACK" Bundle.steD (am_A g) U U.heap ∧ vx_Zq Bundle.tN "SUPPRESSED_SENTINEL" Bundle.listD (am_A g) U U.heap ∧ ∀ q ∈ am_ncs, va_Nc q.1 q.2 U
def am_fr (d : Nat) : Nat := d + 16
def am_lo (d : Nat) : Nat := 60 * d + 400
def am_ok (g : am_P) (l : Launch) (e : am_E) (d : Nat) (x : am_T) : Prop := match x with
  | (p, l', _, R, s, m, args, _, meth, c) => p.tables.exec = Jvm.exec ∧ c.code = e.2.1 ∧ c.maxLocals = e.2.2.1 ∧ s.vm.findClass e.1.cls = some m.cls ∧ meth.locks = false ∧ meth.sig.returnType = e.2.2.2 ∧ (∀ w ∈ am_tbl, w.before args s = true) ∧ va_K g.1 vwCl [] s ∧ am_F g s ∧ am_fr d ≤ R.frames ∧ am_lo d ≤ R.locals ∧ meth.name = e.1.name ∧ l' = l ∧ ∀ hh : List (Nat × Nat × Nat × Nat), Cond.codeWith e.1 e.2.1 e.2.2.1 e.2.2.2 hh ∈ am_tbl → c.exceptionTable.toList = tableOf hh
def am_W (x : am_T) (H : Heap) (locs : List Loc) (cells slots : Nat) (QQ : State → Prop) (pc : Nat) (ls : Array Slot) (st : List Value) : Prop := match x with
  | (p, l, e, R, s, m, args, below, meth, c) => W p l e R s m args below meth c H locs cells slots QQ (F0 m pc ls st)
def am_nL (x : am_T) : Nat := x.2.2.2.2.2.2.2.2.2.maxLocals
def am_s (x : am_T) : State := x.2.2.2.2.1
def am_rm (x : am_T) : Room := x.2.2.2.1
def am_cc (x : am_T) : ByteArray := x.2.2.2.2.2.2.2.2.2.code
/-- the heap, what was there before, and what was written -/
def am_st (g : am_P) (x : am_T) (h : am_H) (H : Heap) (locs : List Loc) : Prop := am_hold g (am_s x) h H ∧ (∀ q : Nat, q < g.2.2 → H[q]? = (am_s x).heap[q]?) ∧ ∀ q ∈ locs, g.2.2 ≤ q.base
/-- the instruction that returns v -/
def am_ri : Option Value → Instr
  | none => .return_
  | some (.int _) => .ireturn
  | some (.long _) => .lreturn
  | some _ => .areturn
def am_rok (rt : Option FieldType) : Option Value → Prop
  | none => rt = none
  | some (.int v) => ∃ ty : FieldType, rt = some ty ∧ narrow ty (.int v) = .int v
  | some (.long _) => rt = some .long
  | some v => (v = .null ∨ ∃ a : Nat, v = .ref a) ∧ ∃ ty : FieldType, rt = some ty ∧ ((∃ n, ty = .object n) ∨ ∃ t, ty = .array t)
/-- the entries ik, ic of the class own make and throw an E -/
def am_xw (own : Option String) (E : String) (ik ic : Nat) : Prop := ∃ o : String, own = some o ∧ Cond.classLink o ik E ∈ am_tbl ∧ Cond.methodLink o ic ⟨E, "<init>", "()V"⟩ ∈ am_tbl ∧ E ∈ ["java/lang/IllegalArgumentException", "java/lang/UnsupportedOperationException", "java/util/NoSuchElementException", "java/lang/IndexOutOfBoundsException", "java/lang/IllegalStateException"]
/-- a heap with a cell more -/
def am_nw (h : am_H) (tag n : Nat) (f : Nat → Value) : am_H := (h.1 + 1, h.2.1 + n, fun a => if a = h.1 then (tag, n, f) else h.2.2 a)
def am_End (g : am_P) (x : am_T) (own : String) (rt : Option FieldType) (r : am_R) (h' : am_H) (cells slots : Nat) (QQ : State → Prop) : Prop := match r with
  | .inl v => ∀ (H : Heap) (ls : Array Slot) (locs : List Loc) (pc : Nat), am_st g x h' H locs → decode (am_cc x) pc = .ok (am_ri v, 1) → am_rok rt v → am_W x H locs cells slots QQ pc ls (v.toList.map (am_tv g))
  | .inr E => ∀ (h0 : am_H) (H : Heap) (ls : Array Slot) (locs : List Loc) (pc ik ic c0 s0 : Nat) (rest : List Value), h' = am_nw h0 99 6 (fun _ => .null) → am_st g x h0 H locs → ls.size = am_nL x → decode (am_cc x) pc = .ok (.new ik, 3) → decode (am_cc x) (pc + 3) = .ok (.dup, 1) → decode (am_cc x) (pc + 4) = .ok (.invokespecial ic, 3) → decode (am_cc x) (pc + 7) = .ok (.athrow, 1) → am_xw (some own) E ik ic → (rest.map fun v => v.category).sum ≤ 8 → cells = c0 + 1 → slots = s0 + 6 → am_W x H locs c0 s0 QQ pc ls rest
def am_G (g : am_P) (l : Launch) (e : am_E) (d : Nat) (Q : am_R → am_H → Prop) (pc : Nat) (lv : am_L) (st : List Value) (h : am_H) : Prop :=
  ∃ (r : am_R) (h' : am_H), Q r h' ∧ h.1 ≤ h'.1 ∧ h.2.1 ≤ h'.2.1 ∧ ∀ x : am_T, am_ok g l e d x → ∀ (H : Heap) (ls : Array Slot) (locs : List Loc) (cells slots : Nat) (QQ : State → Prop), am_st g x h H locs → am_lv g ls (am_nL x) lv → cells + (h'.1 - h.1) ≤ (am_rm x).cells → slots + (h'.2.1 - h.2.1) ≤ (am_rm x).slots →
    am_End g x e.1.cls e.2.2.2 r h' (cells + (h'.1 - h.1)) (slots + (h'.2.1 - h.2.1)) QQ → am_W x H locs cells slots QQ pc ls (st.map (am_tv g))
section AG
variable {g : am_P} {l : Launch} {e : am_E} {d : Nat} {Q : am_R → am_H → Prop} {pc : Nat} {lv : am_L} {st : List Value} {h : am_H}
theorem am_pure {pc' : Nat} {lv' : am_L} {st' : List Value} (f : ∀ x : am_T, am_ok g l e d x → ∀ (H : Heap) (ls : Array Slot) (locs : List Loc) (cells slots : Nat) (QQ : State → Prop), am_lv g ls (am_nL x) lv → (∀ ls' : Array Slot, am_lv g ls' (am_nL x) lv' → am_W x H locs cells slots QQ pc' ls' (st'.map (am_tv g))) → am_W x H locs cells slots QQ pc ls (st.map (am_tv g)))
    (k : am_G g l e d Q pc' lv' st' h) : am_G g l e d Q pc lv st h := by
  obtain ⟨r, h', hq, h1, h2, k⟩ := k
  exact ⟨r, h', hq, h1, h2, fun x C H ls locs cells slots QQ a b c d e => f x C H ls locs cells slots QQ b fun ls' b' => k x C H ls' locs cells slots QQ a b' c d e⟩

theorem ag_iconst {n : Int} {v : Int32} (hd : decode e.2.1 pc = .ok (.iconst n, 1)) (hv : Int32.ofInt n = v) (k : am_G g l e d Q (pc + 1) lv (.int v :: st) h) : am_G g l e d Q pc lv (st) h := by
  refine am_pure ?_ k
  rintro ⟨p, l', e', R, s, m, args, below, meth, c⟩ ⟨hx, hb, hml, hown, -, -, hts, -⟩
  exact fun H ls locs cells slots QQ hl kk => lv_iconst hx hb hd hv (kk ls hl)
theorem ag_bipush {n : Int} {v : Int32} (hd : decode e.2.1 pc = .ok (.bipush n, 2)) (hv : (Int8.ofInt n).toInt32 = v) (k : am_G g l e d Q (pc + 2) lv (.int v :: st) h) : am_G g l e d Q pc lv (st) h := by
  refine am_pure ?_ k
  rintro ⟨p, l', e', R, s, m, args, below, meth, c⟩ ⟨hx, hb, hml, hown, -, -, hts, -⟩
  exact fun H ls locs cells slots QQ hl kk => lv_bipush hx hb hd hv (kk ls hl)
theorem ag_sipush {n : Int} {v : Int32} (hd : decode e.2.1 pc = .ok (.sipush n, 3)) (hv : (Int16.ofInt n).toInt32 = v) (k : am_G g l e d Q (pc + 3) lv (.int v :: st) h) : am_G g l e d Q pc lv (st) h := by
  refine am_pure ?_ k
  rintro ⟨p, l', e', R, s, m, args, below, meth, c⟩ ⟨hx, hb, hml, hown, -, -, hts, -⟩
  exact fun H ls locs cells slots QQ hl kk => lv_sipush hx hb hd hv (kk ls hl)
theorem ag_lconst {n : Fin 2} {v : Int64} (hd : decode e.2.1 pc = .ok (.lconst n, 1)) (hv : Int64.ofNat (n : Nat) = v) (k : am_G g l e d Q (pc + 1) lv (.long v :: st) h) : am_G g l e d Q pc lv (st) h := by
  refine am_pure ?_ k
  rintro ⟨p, l', e', R, s, m, args, below, meth, c⟩ ⟨hx, hb, hml, hown, -, -, hts, -⟩
  exact fun H ls locs cells slots QQ hl kk => lv_lconst hx hb hd hv (kk ls hl)
theorem ag_null  (hd : decode e.2.1 pc = .ok (.aconst_null, 1)) (k : am_G g l e d Q (pc + 1) lv (.null :: st) h) : am_G g l e d Q pc lv (st) h := by
  refine am_pure ?_ k
  rintro ⟨p, l', e', R, s, m, args, below, meth, c⟩ ⟨hx, hb, hml, hown, -, -, hts, -⟩
  exact fun H ls locs cells slots QQ hl kk => lv_null hx hb hd (kk ls hl)
theorem ag_ldc2 {n : Nat} {v : Int64} (hd : decode e.2.1 pc = .ok (.ldc2_w n, 3)) (hv : Cond.constantLong e.1.cls n v ∈ am_tbl) (k : am_G g l e d Q (pc + 3) lv (.long v :: st) h) : am_G g l e d Q pc lv (st) h := by
  refine am_pure ?_ k
  rintro ⟨p, l', e', R, s, m, args, below, meth, c⟩ ⟨hx, hb, hml, hown, -, -, hts, -⟩
  exact fun H ls locs cells slots QQ hl kk => lv_ldc2 hx hb hown (hts _ hv) hd (kk ls hl)
theorem ag_iload_n {n : Fin 4} {v : Int32} (hd : decode e.2.1 pc = .ok (.iload_n n, 1)) (hv : lv[(n : Nat)]? = some (some (.int v))) (k : am_G g l e d Q (pc + 1) lv (.int v :: st) h) : am_G g l e d Q pc lv (st) h := by
  refine am_pure ?_ k
  rintro ⟨p, l', e', R, s, m, args, below, meth, c⟩ ⟨hx, hb, hml, hown, -, -, hts, -⟩
  exact fun H ls locs cells slots QQ hl kk => lv_iload_n hx hb hd rfl (hl.2.2.2 _ _ hv) (kk ls hl)
theorem ag_iload {n : Nat} {v : Int32} (hd : decode e.2.1 pc = .ok (.iload n, 2)) (hv : lv[n]? = some (some (.int v))) (k : am_G g l e d Q (pc + 2) lv (.int v :: st) h) : am_G g l e d Q pc lv (st) h := by
  refine am_pure ?_ k
  rintro ⟨p, l', e', R, s, m, args, below, meth, c⟩ ⟨hx, hb, hml, hown, -, -, hts, -⟩
  exact fun H ls locs cells slots QQ hl kk => lv_iload hx hb hd (hl.2.2.2 _ _ hv) (kk ls hl)
theorem ag_lload_n {n : Fin 4} {v : Int64} (hd : decode e.2.1 pc = .ok (.lload_n n, 1)) (hv : lv[(n : Nat)]? = some (some (.long v))) (k : am_G g l e d Q (pc + 1) lv (.long v :: st) h) : am_G g l e d Q pc lv (st) h := by
  refine am_pure ?_ k
  rintro ⟨p, l', e', R, s, m, args, below, meth, c⟩ ⟨hx, hb, hml, hown, -, -, hts, -⟩
  exact fun H ls locs cells slots QQ hl kk => lv_lload_n hx hb hd rfl (hl.2.2.2 _ _ hv) (kk ls hl)
theorem ag_lload {n : Nat} {v : Int64} (hd : decode e.2.1 pc = .ok (.lload n, 2)) (hv : lv[n]? = some (some (.long v))) (k : am_G g l e d Q (pc + 2) lv (.long v :: st) h) : am_G g l e d Q pc lv (st) h := by
  refine am_pure ?_ k
  rintro ⟨p, l', e', R, s, m, args, below, meth, c⟩ ⟨hx, hb, hml, hown, -, -, hts, -⟩
  exact fun H ls locs cells slots QQ hl kk => lv_lload hx hb hd (hl.2.2.2 _ _ hv) (kk ls hl)
theorem ag_aload_n {n : Fin 4} {v : Value} (hd : decode e.2.1 pc = .ok (.aload_n n, 1)) (hv : lv[(n : Nat)]? = some (some v)) (hr : v = .null ∨ ∃ a : Nat, v = .ref a) (k : am_G g l e d Q (pc + 1) lv (v :: st) h) : am_G g l e d Q pc lv (st) h := by
  rcases hr with rfl | ⟨a, rfl⟩
  · refine am_pure ?_ k
    rintro ⟨p, l', e', R, s, m, args, below, meth, c⟩ ⟨hx, hb, hml, hown, -, -, hts, -⟩
    exact fun H ls locs cells slots QQ hl kk => lv_aload_nN hx hb hd rfl (hl.2.2.2 _ _ hv) (kk ls hl)
  · refine am_pure ?_ k
    rintro ⟨p, l', e', R, s, m, args, below, meth, c⟩ ⟨hx, hb, hml, hown, -, -, hts, -⟩
    exact fun H ls locs cells slots QQ hl kk => lv_aload_n hx hb hd rfl (hl.2.2.2 _ _ hv) (kk ls hl)
theorem ag_aload {n : Nat} {v : Value} (hd : decode e.2.1 pc = .ok (.aload n, 2)) (hv : lv[n]? = some (some v)) (hr : v = .null ∨ ∃ a : Nat, v = .ref a) (k : am_G g l e d Q (pc + 2) lv (v :: st) h) : am_G g l e d Q pc lv (st) h := by
  rcases hr with rfl | ⟨a, rfl⟩
  · refine am_pure ?_ k
    rintro ⟨p, l', e', R, s, m, args, below, meth, c⟩ ⟨hx, hb, hml, hown, -, -, hts, -⟩
    exact fun H ls locs cells slots QQ hl kk => lv_aloadN hx hb hd (hl.2.2.2 _ _ hv) (kk ls hl)
  · refine am_pure ?_ k
    rintro ⟨p, l', e', R, s, m, args, below, meth, c⟩ ⟨hx, hb, hml, hown, -, -, hts, -⟩
    exact fun H ls locs cells slots QQ hl kk => lv_aload hx hb hd (hl.2.2.2 _ _ hv) (kk ls hl)
theorem ag_istore_n {n : Fin 4} {v : Int32} {lv2 : am_L} (hd : decode e.2.1 pc = .ok (.istore_n n, 1)) (hn : (n : Nat) < lv.length) (h2 : am_st1 lv n (some (.int v)) = lv2) (k : am_G g l e d Q (pc + 1) lv2 (st) h) : am_G g l e d Q pc lv (.int v :: st) h := by
  refine am_pure ?_ k
  rintro ⟨p, l', e', R, s, m, args, below, meth, c⟩ ⟨hx, hb, hml, hown, -, -, hts, -⟩
  exact fun H ls locs cells slots QQ hl kk => lv_istore_n hx hb hd rfl hl.has (hl.2.2.1 ▸ hn) rfl fun ls' h' => kk ls' (h2 ▸ am_st1_lv hl.2.2.1 h')
theorem ag_istore {n : Nat} {v : Int32} {lv2 : am_L} (hd : decode e.2.1 pc = .ok (.istore n, 2)) (hn : n < lv.length) (h2 : am_st1 lv n (some (.int v)) = lv2) (k : am_G g l e d Q (pc + 2) lv2 (st) h) : am_G g l e d Q pc lv (.int v :: st) h := by
  refine am_pure ?_ k
  rintro ⟨p, l', e', R, s, m, args, below, meth, c⟩ ⟨hx, hb, hml, hown, -, -, hts, -⟩
  exact fun H ls locs cells slots QQ hl kk => lv_istore hx hb hd hl.has (hl.2.2.1 ▸ hn) rfl fun ls' h' => kk ls' (h2 ▸ am_st1_lv hl.2.2.1 h')
theorem ag_lstore {n : Nat} {v : Int64} {lv2 : am_L} (hd : decode e.2.1 pc = .ok (.lstore n, 2)) (hn : n + 1 < lv.length) (h2 : am_st2 lv n (some (.long v)) = lv2) (k : am_G g l e d Q (pc + 2) lv2 (st) h) : am_G g l e d Q pc lv (.long v :: st) h := by
  refine am_pure ?_ k
  rintro ⟨p, l', e', R, s, m, args, below, meth, c⟩ ⟨hx, hb, hml, hown, -, -, hts, -⟩
  exact fun H ls locs cells slots QQ hl kk => lv_lstore hx hb hd hl.has (hl.2.2.1 ▸ hn) rfl fun ls' h' => kk ls' (h2 ▸ am_st2_lv hl.2.2.1 h')
theorem ag_astore_n {n : Fin 4} {v : Value} {lv2 : am_L} (hd : decode e.2.1 pc = .ok (.astore_n n, 1)) (hn : (n : Nat) < lv.length) (h2 : am_st1 lv n (some v) = lv2) (hr : v = .null ∨ ∃ a : Nat, v = .ref a) (k : am_G g l e d Q (pc + 1) lv2 (st) h) : am_G g l e d Q pc lv (v :: st) h := by
  rcases hr with rfl | ⟨a, rfl⟩
  · refine am_pure ?_ k
    rintro ⟨p, l', e', R, s, m, args, below, meth, c⟩ ⟨hx, hb, hml, hown, -, -, hts, -⟩
    exact fun H ls locs cells slots QQ hl kk => lv_astore_nN hx hb hd rfl hl.has (hl.2.2.1 ▸ hn) rfl fun ls' h' => kk ls' (h2 ▸ am_st1_lv (w := .null) hl.2.2.1 h')
  · refine am_pure ?_ k
    rintro ⟨p, l', e', R, s, m, args, below, meth, c⟩ ⟨hx, hb, hml, hown, -, -, hts, -⟩
    exact fun H ls locs cells slots QQ hl kk => lv_astore_n hx hb hd rfl hl.has (hl.2.2.1 ▸ hn) rfl fun ls' h' => kk ls' (h2 ▸ am_st1_lv (w := .ref a) hl.2.2.1 h')
theorem ag_astore {n : Nat} {v : Value} {lv2 : am_L} (hd : decode e.2.1 pc = .ok (.astore n, 2)) (hn : n < lv.length) (h2 : am_st1 lv n (some v) = lv2) (hr : v = .null ∨ ∃ a : Nat, v = .ref a) (k : am_G g l e d Q (pc + 2) lv2 (st) h) : am_G g l e d Q pc lv (v :: st) h := by
  rcases hr with rfl | ⟨a, rfl⟩
  · refine am_pure ?_ k
    rintro ⟨p, l', e', R, s, m, args, below, meth, c⟩ ⟨hx, hb, hml, hown, -, -, hts, -⟩
    exact fun H ls locs cells slots QQ hl kk => lv_astoreN hx hb hd hl.has (hl.2.2.1 ▸ hn) rfl fun ls' h' => kk ls' (h2 ▸ am_st1_lv (w := .null) hl.2.2.1 h')
  · refine am_pure ?_ k
    rintro ⟨p, l', e', R, s, m, args, below, meth, c⟩ ⟨hx, hb, hml, hown, -, -, hts, -⟩
    exact fun H ls locs cells slots QQ hl kk => lv_astore hx hb hd hl.has (hl.2.2.1 ▸ hn) rfl fun ls' h' => kk ls' (h2 ▸ am_st1_lv (w := .ref a) hl.2.2.1 h')
theorem am_pr_get {lv : am_L} {i : Nat} {v : Value} (hv : lv[i]? = some (some v)) : ∃ k : Nat, (am_pr g lv)[k]? = some (i, am_tv g v) := List.getElem?_of_mem (am_pr_mem hv)
theorem ag_iinc {n : Nat} {z : Int} {v v2 : Int32} {lv2 : am_L} (hd : decode e.2.1 pc = .ok (.iinc n z, 3)) (hv : lv[n]? = some (some (.int v))) (h1 : v + Int32.ofInt z = v2) (h2 : am_st1 lv n (some (.int v2)) = lv2) (k : am_G g l e d Q (pc + 3) lv2 st h) : am_G g l e d Q pc lv st h := by
  obtain ⟨j, hj⟩ := am_pr_get (g := g) hv
  refine am_pure ?_ k
  rintro ⟨p, l', e', R, s, m, args, below, meth, c⟩ ⟨hx, hb, hml, hown, -, -, hts, -⟩
  exact fun H ls locs cells slots QQ hl kk => lv_iinc hx hb hd hl.has hj h1 (hl.2.2.1 ▸ (List.getElem?_eq_some_iff.mp hv).1) rfl fun ls' h' => kk ls' (h2 ▸ am_st1_lv hl.2.2.1 h')
theorem ag_iadd {a b v : Int32} (hd : decode e.2.1 pc = .ok (.iadd, 1)) (hv : a + b = v) (k : am_G g l e d Q (pc + 1) lv (.int v :: st) h) : am_G g l e d Q pc lv (.int b :: .int a :: st) h := by
  refine am_pure ?_ k
  rintro ⟨p, l', e', R, s, m, args, below, meth, c⟩ ⟨hx, hb, hml, hown, -, -, hts, -⟩
  exact fun H ls locs cells slots QQ hl kk => by subst hv; exact lv_iadd hx hb hd (kk ls hl)
theorem ag_isub {a b v : Int32} (hd : decode e.2.1 pc = .ok (.isub, 1)) (hv : a - b = v) (k : am_G g l e d Q (pc + 1) lv (.int v :: st) h) : am_G g l e d Q pc lv (.int b :: .int a :: st) h := by
  refine am_pure ?_ k
  rintro ⟨p, l', e', R, s, m, args, below, meth, c⟩ ⟨hx, hb, hml, hown, -, -, hts, -⟩
  exact fun H ls locs cells slots QQ hl kk => by subst hv; exact lv_isub hx hb hd (kk ls hl)
theorem ag_imul {a b v : Int32} (hd : decode e.2.1 pc = .ok (.imul, 1)) (hv : a * b = v) (k : am_G g l e d Q (pc + 1) lv (.int v :: st) h) : am_G g l e d Q pc lv (.int b :: .int a :: st) h := by
  refine am_pure ?_ k
  rintro ⟨p, l', e', R, s, m, args, below, meth, c⟩ ⟨hx, hb, hml, hown, -, -, hts, -⟩
  exact fun H ls locs cells slots QQ hl kk => by subst hv; exact lv_imul hx hb hd (kk ls hl)
theorem ag_iand {a b v : Int32} (hd : decode e.2.1 pc = .ok (.iand, 1)) (hv : a &&& b = v) (k : am_G g l e d Q (pc + 1) lv (.int v :: st) h) : am_G g l e d Q pc lv (.int b :: .int a :: st) h := by
  refine am_pure ?_ k
  rintro ⟨p, l', e', R, s, m, args, below, meth, c⟩ ⟨hx, hb, hml, hown, -, -, hts, -⟩
  exact fun H ls locs cells slots QQ hl kk => by subst hv; exact lv_iand hx hb hd (kk ls hl)
theorem ag_ior {a b v : Int32} (hd : decode e.2.1 pc = .ok (.ior, 1)) (hv : a ||| b = v) (k : am_G g l e d Q (pc + 1) lv (.int v :: st) h) : am_G g l e d Q pc lv (.int b :: .int a :: st) h := by
  refine am_pure ?_ k
  rintro ⟨p, l', e', R, s, m, args, below, meth, c⟩ ⟨hx, hb, hml, hown, -, -, hts, -⟩
  exact fun H ls locs cells slots QQ hl kk => by subst hv; exact lv_ior hx hb hd (kk ls hl)
theorem ag_ixor {a b v : Int32} (hd : decode e.2.1 pc = .ok (.ixor, 1)) (hv : a ^^^ b = v) (k : am_G g l e d Q (pc + 1) lv (.int v :: st) h) : am_G g l e d Q pc lv (.int b :: .int a :: st) h := by
  refine am_pure ?_ k
  rintro ⟨p, l', e', R, s, m, args, below, meth, c⟩ ⟨hx, hb, hml, hown, -, -, hts, -⟩
  exact fun H ls locs cells slots QQ hl kk => by subst hv; exact lv_ixor hx hb hd (kk ls hl)
theorem ag_land {a b v : Int64} (hd : decode e.2.1 pc = .ok (.land, 1)) (hv : a &&& b = v) (k : am_G g l e d Q (pc + 1) lv (.long v :: st) h) : am_G g l e d Q pc lv (.long b :: .long a :: st) h := by
  refine am_pure ?_ k
  rintro ⟨p, l', e', R, s, m, args, below, meth, c⟩ ⟨hx, hb, hml, hown, -, -, hts, -⟩
  exact fun H ls locs cells slots QQ hl kk => by subst hv; exact lv_land hx hb hd (kk ls hl)
theorem ag_lor {a b v : Int64} (hd : decode e.2.1 pc = .ok (.lor, 1)) (hv : a ||| b = v) (k : am_G g l e d Q (pc + 1) lv (.long v :: st) h) : am_G g l e d Q pc lv (.long b :: .long a :: st) h := by
  refine am_pure ?_ k
  rintro ⟨p, l', e', R, s, m, args, below, meth, c⟩ ⟨hx, hb, hml, hown, -, -, hts, -⟩
  exact fun H ls locs cells slots QQ hl kk => by subst hv; exact lv_lor hx hb hd (kk ls hl)
theorem ag_lxor {a b v : Int64} (hd : decode e.2.1 pc = .ok (.lxor, 1)) (hv : a ^^^ b = v) (k : am_G g l e d Q (pc + 1) lv (.long v :: st) h) : am_G g l e d Q pc lv (.long b :: .long a :: st) h := by
  refine am_pure ?_ k
  rintro ⟨p, l', e', R, s, m, args, below, meth, c⟩ ⟨hx, hb, hml, hown, -, -, hts, -⟩
  exact fun H ls locs cells slots QQ hl kk => by subst hv; exact lv_lxor hx hb hd (kk ls hl)
theorem ag_ladd {a b v : Int64} (hd : decode e.2.1 pc = .ok (.ladd, 1)) (hv : a + b = v) (k : am_G g l e d Q (pc + 1) lv (.long v :: st) h) : am_G g l e d Q pc lv (.long b :: .long a :: st) h := by
  refine am_pure ?_ k
  rintro ⟨p, l', e', R, s, m, args, below, meth, c⟩ ⟨hx, hb, hml, hown, -, -, hts, -⟩
  exact fun H ls locs cells slots QQ hl kk => by subst hv; exact lv_ladd hx hb hd (kk ls hl)
theorem ag_lsub {a b v : Int64} (hd : decode e.2.1 pc = .ok (.lsub, 1)) (hv : a - b = v) (k : am_G g l e d Q (pc + 1) lv (.long v :: st) h) : am_G g l e d Q pc lv (.long b :: .long a :: st) h := by
  refine am_pure ?_ k
  rintro ⟨p, l', e', R, s, m, args, below, meth, c⟩ ⟨hx, hb, hml, hown, -, -, hts, -⟩
  exact fun H ls locs cells slots QQ hl kk => by subst hv; exact lv_lsub hx hb hd (kk ls hl)
theorem ag_idiv {a b v : Int32} (hd : decode e.2.1 pc = .ok (.idiv, 1)) (hne : ¬ b = 0) (hv : a / b = v) (k : am_G g l e d Q (pc + 1) lv (.int v :: st) h) : am_G g l e d Q pc lv (.int b :: .int a :: st) h := by
  refine am_pure ?_ k
  rintro ⟨p, l', e', R, s, m, args, below, meth, c⟩ ⟨hx, hb, hml, hown, -, -, hts, -⟩
  exact fun H ls locs cells slots QQ hl kk => by subst hv; exact lv_idiv hx hb hd hne (kk ls hl)
theorem ag_irem {a b v : Int32} (hd : decode e.2.1 pc = .ok (.irem, 1)) (hne : ¬ b = 0) (hv : a - a / b * b = v) (k : am_G g l e d Q (pc + 1) lv (.int v :: st) h) : am_G g l e d Q pc lv (.int b :: .int a :: st) h := by
  refine am_pure ?_ k
  rintro ⟨p, l', e', R, s, m, args, below, meth, c⟩ ⟨hx, hb, hml, hown, -, -, hts, -⟩
  exact fun H ls locs cells slots QQ hl kk => by subst hv; exact lv_irem hx hb hd hne (kk ls hl)
theorem ag_ishl {a b v : Int32} (hd : decode e.2.1 pc = .ok (.ishl, 1)) (hv : a <<< (b &&& 31) = v) (k : am_G g l e d Q (pc + 1) lv (.int v :: st) h) : am_G g l e d Q pc lv (.int b :: .int a :: st) h := by
  refine am_pure ?_ k
  rintro ⟨p, l', e', R, s, m, args, below, meth, c⟩ ⟨hx, hb, hml, hown, -, -, hts, -⟩
  exact fun H ls locs cells slots QQ hl kk => by subst hv; exact lv_ishl hx hb hd (kk ls hl)
theorem ag_ishr {a b v : Int32} (hd : decode e.2.1 pc = .ok (.ishr, 1)) (hv : a >>> (b &&& 31) = v) (k : am_G g l e d Q (pc + 1) lv (.int v :: st) h) : am_G g l e d Q pc lv (.int b :: .int a :: st) h := by
  refine am_pure ?_ k
  rintro ⟨p, l', e', R, s, m, args, below, meth, c⟩ ⟨hx, hb, hml, hown, -, -, hts, -⟩
  exact fun H ls locs cells slots QQ hl kk => by subst hv; exact lv_ishr hx hb hd (kk ls hl)
theorem ag_lshl {a v : Int64} {b : Int32} (hd : decode e.2.1 pc = .ok (.lshl, 1)) (hv : a <<< (b.toInt64 &&& 63) = v) (k : am_G g l e d Q (pc + 1) lv (.long v :: st) h) : am_G g l e d Q pc lv (.int b :: .long a :: st) h := by
  refine am_pure ?_ k
  rintro ⟨p, l', e', R, s, m, args, below, meth, c⟩ ⟨hx, hb, hml, hown, -, -, hts, -⟩
  exact fun H ls locs cells slots QQ hl kk => lv_lshl hx hb hd hv (kk ls hl)
theorem ag_lshr {a v : Int64} {b : Int32} (hd : decode e.2.1 pc = .ok (.lshr, 1)) (hv : a >>> (b.toInt64 &&& 63) = v) (k : am_G g l e d Q (pc + 1) lv (.long v :: st) h) : am_G g l e d Q pc lv (.int b :: .long a :: st) h := by
  refine am_pure ?_ k
  rintro ⟨p, l', e', R, s, m, args, below, meth, c⟩ ⟨hx, hb, hml, hown, -, -, hts, -⟩
  exact fun H ls locs cells slots QQ hl kk => lv_lshr hx hb hd hv (kk ls hl)
theorem ag_lushr {a v : Int64} {b : Int32} (hd : decode e.2.1 pc = .ok (.lushr, 1)) (hv : (a.toUInt64 >>> (b.toInt64.toUInt64 &&& Int64.toUInt64 63)).toInt64 = v) (k : am_G g l e d Q (pc + 1) lv (.long v :: st) h) : am_G g l e d Q pc lv (.int b :: .long a :: st) h := by
  refine am_pure ?_ k
  rintro ⟨p, l', e', R, s, m, args, below, meth, c⟩ ⟨hx, hb, hml, hown, -, -, hts, -⟩
  exact fun H ls locs cells slots QQ hl kk => lv_lushr hx hb hd hv (kk ls hl)
theorem ag_i2l {a : Int32} {v : Int64} (hd : decode e.2.1 pc = .ok (.i2l, 1)) (hv : a.toInt64 = v) (k : am_G g l e d Q (pc + 1) lv (.long v :: st) h) : am_G g l e d Q pc lv (.int a :: st) h := by
  refine am_pure ?_ k
  rintro ⟨p, l', e', R, s, m, args, below, meth, c⟩ ⟨hx, hb, hml, hown, -, -, hts, -⟩
  exact fun H ls locs cells slots QQ hl kk => lv_i2l hx hb hd hv (kk ls hl)
theorem ag_l2i {a : Int64} {v : Int32} (hd : decode e.2.1 pc = .ok (.l2i, 1)) (hv : a.toInt32 = v) (k : am_G g l e d Q (pc + 1) lv (.int v :: st) h) : am_G g l e d Q pc lv (.long a :: st) h := by
  refine am_pure ?_ k
  rintro ⟨p, l', e', R, s, m, args, below, meth, c⟩ ⟨hx, hb, hml, hown, -, -, hts, -⟩
  exact fun H ls locs cells slots QQ hl kk => lv_l2i hx hb hd hv (kk ls hl)
theorem ag_i2c {a : Int32} {v : Int32} (hd : decode e.2.1 pc = .ok (.i2c, 1)) (hv : (a.toUInt32 % 65536).toInt32 = v) (k : am_G g l e d Q (pc + 1) lv (.int v :: st) h) : am_G g l e d Q pc lv (.int a :: st) h := by
  refine am_pure ?_ k
  rintro ⟨p, l', e', R, s, m, args, below, meth, c⟩ ⟨hx, hb, hml, hown, -, -, hts, -⟩
  exact fun H ls locs cells slots QQ hl kk => lv_i2c hx hb hd hv (kk ls hl)
theorem ag_dup {v : Value} (hd : decode e.2.1 pc = .ok (.dup, 1)) (hc : v.category = 1) (k : am_G g l e d Q (pc + 1) lv (v :: v :: st) h) : am_G g l e d Q pc lv (v :: st) h := by
  refine am_pure ?_ k
  rintro ⟨p, l', e', R, s, m, args, below, meth, c⟩ ⟨hx, hb, hml, hown, -, -, hts, -⟩
  exact fun H ls locs cells slots QQ hl kk => lv_dup hx hb hd (by rw [am_tv_cat]; exact hc) (kk ls hl)
theorem ag_dup2 {v w : Value} (hd : decode e.2.1 pc = .ok (.dup2, 1)) (hv : v.category = 1) (hw : w.category = 1) (k : am_G g l e d Q (pc + 1) lv (v :: w :: v :: w :: st) h) : am_G g l e d Q pc lv (v :: w :: st) h := by
  refine am_pure ?_ k
  rintro ⟨p, l', e', R, s, m, args, below, meth, c⟩ ⟨hx, hb, hml, hown, -, -, hts, -⟩
  exact fun H ls locs cells slots QQ hl kk => lv_dup2_11 hx hb hd (by rw [am_tv_cat]; exact hv) (by rw [am_tv_cat]; exact hw) (kk ls hl)
theorem ag_pop {v : Value} (hd : decode e.2.1 pc = .ok (.pop, 1)) (hc : v.category = 1) (k : am_G g l e d Q (pc + 1) lv (st) h) : am_G g l e d Q pc lv (v :: st) h := by
  refine am_pure ?_ k
  rintro ⟨p, l', e', R, s, m, args, below, meth, c⟩ ⟨hx, hb, hml, hown, -, -, hts, -⟩
  exact fun H ls locs cells slots QQ hl kk => lv_pop hx hb hd (by rw [am_tv_cat]; exact hc) (kk ls hl)
theorem ag_goto {off : Int} {tgt : Nat} (hd : decode e.2.1 pc = .ok (.goto off, 3)) (ht : (pc : Int) + off = (tgt : Int)) (k : am_G g l e d Q (tgt) lv (st) h) : am_G g l e d Q pc lv (st) h := by
  refine am_pure ?_ k
  rintro ⟨p, l', e', R, s, m, args, below, meth, c⟩ ⟨hx, hb, hml, hown, -, -, hts, -⟩
  exact fun H ls locs cells slots QQ hl kk => lv_goto hx hb hd ht (kk ls hl)
theorem ag_ifnull_r {off : Int} {a : Nat} (hd : decode e.2.1 pc = .ok (.ifnull off, 3)) (k : am_G g l e d Q (pc + 3) lv (st) h) : am_G g l e d Q pc lv (.ref a :: st) h := by
  refine am_pure ?_ k
  rintro ⟨p, l', e', R, s, m, args, below, meth, c⟩ ⟨hx, hb, hml, hown, -, -, hts, -⟩
  exact fun H ls locs cells slots QQ hl kk => lv_ifnull hx hb hd (kk ls hl)
theorem ag_ifnull_n {off : Int} {tgt : Nat} (hd : decode e.2.1 pc = .ok (.ifnull off, 3)) (ht : (pc : Int) + off = (tgt : Int)) (k : am_G g l e d Q (tgt) lv (st) h) : am_G g l e d Q pc lv (.null :: st) h := by
  refine am_pure ?_ k
  rintro ⟨p, l', e', R, s, m, args, below, meth, c⟩ ⟨hx, hb, hml, hown, -, -, hts, -⟩
  exact fun H ls locs cells slots QQ hl kk => lv_ifnullN hx hb hd ht (kk ls hl)
theorem ag_ifnonnull_r {off : Int} {a tgt : Nat} (hd : decode e.2.1 pc = .ok (.ifnonnull off, 3)) (ht : (pc : Int) + off = (tgt : Int)) (k : am_G g l e d Q (tgt) lv (st) h) : am_G g l e d Q pc lv (.ref a :: st) h := by
  refine am_pure ?_ k
  rintro ⟨p, l', e', R, s, m, args, below, meth, c⟩ ⟨hx, hb, hml, hown, -, -, hts, -⟩
  exact fun H ls locs cells slots QQ hl kk => lv_ifnonnull hx hb hd ht (kk ls hl)
theorem ag_ifnonnull_n {off : Int} (hd : decode e.2.1 pc = .ok (.ifnonnull off, 3)) (k : am_G g l e d Q (pc + 3) lv (st) h) : am_G g l e d Q pc lv (.null :: st) h := by
  refine am_pure ?_ k
  rintro ⟨p, l', e', R, s, m, args, below, meth, c⟩ ⟨hx, hb, hml, hown, -, -, hts, -⟩
  exact fun H ls locs cells slots QQ hl kk => lv_ifnonnullN hx hb hd (kk ls hl)
theorem ag_if_eq {a : Int32} {off : Int} {tgt : Nat} (hd : decode e.2.1 pc = .ok (.ifCond .eq off, 3)) (ht : (pc : Int) + off = (tgt : Int)) (kt : a = 0 → am_G g l e d Q tgt lv st h) (kf : ¬ a = 0 → am_G g l e d Q (pc + 3) lv st h) : am_G g l e d Q pc lv (.int a :: st) h := by
  by_cases hc : a = 0
  · refine am_pure ?_ (kt hc)
    rintro ⟨p, l', e', R, s, m, args, below, meth, c⟩ ⟨hx, hb, hml, hown, -, -, hts, -⟩
    exact fun H ls locs cells slots QQ hl kk => lv_if_eq hx hb hd ht (fun _ => kk ls hl) (fun q => absurd hc q)
  · refine am_pure ?_ (kf hc)
    rintro ⟨p, l', e', R, s, m, args, below, meth, c⟩ ⟨hx, hb, hml, hown, -, -, hts, -⟩
    exact fun H ls locs cells slots QQ hl kk => lv_if_eq hx hb hd ht (fun q => absurd q hc) (fun _ => kk ls hl)
theorem ag_icmp_eq {a b : Int32} {off : Int} {tgt : Nat} (hd : decode e.2.1 pc = .ok (.if_icmp .eq off, 3)) (ht : (pc : Int) + off = (tgt : Int)) (kt : a = b → am_G g l e d Q tgt lv st h) (kf : ¬ a = b → am_G g l e d Q (pc + 3) lv st h) : am_G g l e d Q pc lv (.int b :: .int a :: st) h := by
  by_cases hc : a = b
  · refine am_pure ?_ (kt hc)
    rintro ⟨p, l', e', R, s, m, args, below, meth, c⟩ ⟨hx, hb, hml, hown, -, -, hts, -⟩
    exact fun H ls locs cells slots QQ hl kk => lv_icmp_eq hx hb hd ht (fun _ => kk ls hl) (fun q => absurd hc q)
  · refine am_pure ?_ (kf hc)
    rintro ⟨p, l', e', R, s, m, args, below, meth, c⟩ ⟨hx, hb, hml, hown, -, -, hts, -⟩
    exact fun H ls locs cells slots QQ hl kk => lv_icmp_eq hx hb hd ht (fun q => absurd q hc) (fun _ => kk ls hl)
theorem ag_if_ne {a : Int32} {off : Int} {tgt : Nat} (hd : decode e.2.1 pc = .ok (.ifCond .ne off, 3)) (ht : (pc : Int) + off = (tgt : Int)) (kt : ¬ a = 0 → am_G g l e d Q tgt lv st h) (kf : a = 0 → am_G g l e d Q (pc + 3) lv st h) : am_G g l e d Q pc lv (.int a :: st) h := by
  by_cases hc : ¬ a = 0
  · refine am_pure ?_ (kt hc)
    rintro ⟨p, l', e', R, s, m, args, below, meth, c⟩ ⟨hx, hb, hml, hown, -, -, hts, -⟩
    exact fun H ls locs cells slots QQ hl kk => lv_if_ne hx hb hd ht (fun _ => kk ls hl) (fun q => absurd q hc)
  · refine am_pure ?_ (kf (Decidable.not_not.mp hc))
    rintro ⟨p, l', e', R, s, m, args, below, meth, c⟩ ⟨hx, hb, hml, hown, -, -, hts, -⟩
    exact fun H ls locs cells slots QQ hl kk => lv_if_ne hx hb hd ht (fun q => absurd q hc) (fun _ => kk ls hl)
theorem ag_icmp_ne {a b : Int32} {off : Int} {tgt : Nat} (hd : decode e.2.1 pc = .ok (.if_icmp .ne off, 3)) (ht : (pc : Int) + off = (tgt : Int)) (kt : ¬ a = b → am_G g l e d Q tgt lv st h) (kf : a = b → am_G g l e d Q (pc + 3) lv st h) : am_G g l e d Q pc lv (.int b :: .int a :: st) h := by
  by_cases hc : ¬ a = b
  · refine am_pure ?_ (kt hc)
    rintro ⟨p, l', e', R, s, m, args, below, meth, c⟩ ⟨hx, hb, hml, hown, -, -, hts, -⟩
    exact fun H ls locs cells slots QQ hl kk => lv_icmp_ne hx hb hd ht (fun _ => kk ls hl) (fun q => absurd q hc)
  · refine am_pure ?_ (kf (Decidable.not_not.mp hc))
    rintro ⟨p, l', e', R, s, m, args, below, meth, c⟩ ⟨hx, hb, hml, hown, -, -, hts, -⟩
    exact fun H ls locs cells slots QQ hl kk => lv_icmp_ne hx hb hd ht (fun q => absurd q hc) (fun _ => kk ls hl)
theorem ag_if_lt {a : Int32} {off : Int} {tgt : Nat} (hd : decode e.2.1 pc = .ok (.ifCond .lt off, 3)) (ht : (pc : Int) + off = (tgt : Int)) (kt : a < 0 → am_G g l e d Q tgt lv st h) (kf : ¬ a < 0 → am_G g l e d Q (pc + 3) lv st h) : am_G g l e d Q pc lv (.int a :: st) h := by
  by_cases hc : a < 0
  · refine am_pure ?_ (kt hc)
    rintro ⟨p, l', e', R, s, m, args, below, meth, c⟩ ⟨hx, hb, hml, hown, -, -, hts, -⟩
    exact fun H ls locs cells slots QQ hl kk => lv_if_lt hx hb hd ht (fun _ => kk ls hl) (fun q => absurd hc q)
  · refine am_pure ?_ (kf hc)
    rintro ⟨p, l', e', R, s, m, args, below, meth, c⟩ ⟨hx, hb, hml, hown, -, -, hts, -⟩
    exact fun H ls locs cells slots QQ hl kk => lv_if_lt hx hb hd ht (fun q => absurd q hc) (fun _ => kk ls hl)
theorem ag_icmp_lt {a b : Int32} {off : Int} {tgt : Nat} (hd : decode e.2.1 pc = .ok (.if_icmp .lt off, 3)) (ht : (pc : Int) + off = (tgt : Int)) (kt : a < b → am_G g l e d Q tgt lv st h) (kf : ¬ a < b → am_G g l e d Q (pc + 3) lv st h) : am_G g l e d Q pc lv (.int b :: .int a :: st) h := by
  by_cases hc : a < b
  · refine am_pure ?_ (kt hc)
    rintro ⟨p, l', e', R, s, m, args, below, meth, c⟩ ⟨hx, hb, hml, hown, -, -, hts, -⟩
    exact fun H ls locs cells slots QQ hl kk => lv_icmp_lt hx hb hd ht (fun _ => kk ls hl) (fun q => absurd hc q)
  · refine am_pure ?_ (kf hc)
    rintro ⟨p, l', e', R, s, m, args, below, meth, c⟩ ⟨hx, hb, hml, hown, -, -, hts, -⟩
    exact fun H ls locs cells slots QQ hl kk => lv_icmp_lt hx hb hd ht (fun q => absurd q hc) (fun _ => kk ls hl)
theorem ag_if_ge {a : Int32} {off : Int} {tgt : Nat} (hd : decode e.2.1 pc = .ok (.ifCond .ge off, 3)) (ht : (pc : Int) + off = (tgt : Int)) (kt : 0 ≤ a → am_G g l e d Q tgt lv st h) (kf : ¬ 0 ≤ a → am_G g l e d Q (pc + 3) lv st h) : am_G g l e d Q pc lv (.int a :: st) h := by
  by_cases hc : 0 ≤ a
  · refine am_pure ?_ (kt hc)
    rintro ⟨p, l', e', R, s, m, args, below, meth, c⟩ ⟨hx, hb, hml, hown, -, -, hts, -⟩
    exact fun H ls locs cells slots QQ hl kk => lv_if_ge hx hb hd ht (fun _ => kk ls hl) (fun q => absurd hc q)
  · refine am_pure ?_ (kf hc)
    rintro ⟨p, l', e', R, s, m, args, below, meth, c⟩ ⟨hx, hb, hml, hown, -, -, hts, -⟩
    exact fun H ls locs cells slots QQ hl kk => lv_if_ge hx hb hd ht (fun q => absurd q hc) (fun _ => kk ls hl)
theorem ag_icmp_ge {a b : Int32} {off : Int} {tgt : Nat} (hd : decode e.2.1 pc = .ok (.if_icmp .ge off, 3)) (ht : (pc : Int) + off = (tgt : Int)) (kt : b ≤ a → am_G g l e d Q tgt lv st h) (kf : ¬ b ≤ a → am_G g l e d Q (pc + 3) lv st h) : am_G g l e d Q pc lv (.int b :: .int a :: st) h := by
  by_cases hc : b ≤ a
  · refine am_pure ?_ (kt hc)
    rintro ⟨p, l', e', R, s, m, args, below, meth, c⟩ ⟨hx, hb, hml, hown, -, -, hts, -⟩
    exact fun H ls locs cells slots QQ hl kk => lv_icmp_ge hx hb hd ht (fun _ => kk ls hl) (fun q => absurd hc q)
  · refine am_pure ?_ (kf hc)
    rintro ⟨p, l', e', R, s, m, args, below, meth, c⟩ ⟨hx, hb, hml, hown, -, -, hts, -⟩
    exact fun H ls locs cells slots QQ hl kk => lv_icmp_ge hx hb hd ht (fun q => absurd q hc) (fun _ => kk ls hl)
theorem ag_if_gt {a : Int32} {off : Int} {tgt : Nat} (hd : decode e.2.1 pc = .ok (.ifCond .gt off, 3)) (ht : (pc : Int) + off = (tgt : Int)) (kt : 0 < a → am_G g l e d Q tgt lv st h) (kf : ¬ 0 < a → am_G g l e d Q (pc + 3) lv st h) : am_G g l e d Q pc lv (.int a :: st) h := by
  by_cases hc : 0 < a
  · refine am_pure ?_ (kt hc)
    rintro ⟨p, l', e', R, s, m, args, below, meth, c⟩ ⟨hx, hb, hml, hown, -, -, hts, -⟩
    exact fun H ls locs cells slots QQ hl kk => lv_if_gt hx hb hd ht (fun _ => kk ls hl) (fun q => absurd hc q)
  · refine am_pure ?_ (kf hc)
    rintro ⟨p, l', e', R, s, m, args, below, meth, c⟩ ⟨hx, hb, hml, hown, -, -, hts, -⟩
    exact fun H ls locs cells slots QQ hl kk => lv_if_gt hx hb hd ht (fun q => absurd q hc) (fun _ => kk ls hl)
theorem ag_icmp_gt {a b : Int32} {off : Int} {tgt : Nat} (hd : decode e.2.1 pc = .ok (.if_icmp .gt off, 3)) (ht : (pc : Int) + off = (tgt : Int)) (kt : b < a → am_G g l e d Q tgt lv st h) (kf : ¬ b < a → am_G g l e d Q (pc + 3) lv st h) : am_G g l e d Q pc lv (.int b :: .int a :: st) h := by
  by_cases hc : b < a
  · refine am_pure ?_ (kt hc)
    rintro ⟨p, l', e', R, s, m, args, below, meth, c⟩ ⟨hx, hb, hml, hown, -, -, hts, -⟩
    exact fun H ls locs cells slots QQ hl kk => lv_icmp_gt hx hb hd ht (fun _ => kk ls hl) (fun q => absurd hc q)
  · refine am_pure ?_ (kf hc)
    rintro ⟨p, l', e', R, s, m, args, below, meth, c⟩ ⟨hx, hb, hml, hown, -, -, hts, -⟩
    exact fun H ls locs cells slots QQ hl kk => lv_icmp_gt hx hb hd ht (fun q => absurd q hc) (fun _ => kk ls hl)
theorem ag_if_le {a : Int32} {off : Int} {tgt : Nat} (hd : decode e.2.1 pc = .ok (.ifCond .le off, 3)) (ht : (pc : Int) + off = (tgt : Int)) (kt : a ≤ 0 → am_G g l e d Q tgt lv st h) (kf : ¬ a ≤ 0 → am_G g l e d Q (pc + 3) lv st h) : am_G g l e d Q pc lv (.int a :: st) h := by
  by_cases hc : a ≤ 0
  · refine am_pure ?_ (kt hc)
    rintro ⟨p, l', e', R, s, m, args, below, meth, c⟩ ⟨hx, hb, hml, hown, -, -, hts, -⟩
    exact fun H ls locs cells slots QQ hl kk => lv_if_le hx hb hd ht (fun _ => kk ls hl) (fun q => absurd hc q)
  · refine am_pure ?_ (kf hc)
    rintro ⟨p, l', e', R, s, m, args, below, meth, c⟩ ⟨hx, hb, hml, hown, -, -, hts, -⟩
    exact fun H ls locs cells slots QQ hl kk => lv_if_le hx hb hd ht (fun q => absurd q hc) (fun _ => kk ls hl)
theorem ag_icmp_le {a b : Int32} {off : Int} {tgt : Nat} (hd : decode e.2.1 pc = .ok (.if_icmp .le off, 3)) (ht : (pc : Int) + off = (tgt : Int)) (kt : a ≤ b → am_G g l e d Q tgt lv st h) (kf : ¬ a ≤ b → am_G g l e d Q (pc + 3) lv st h) : am_G g l e d Q pc lv (.int b :: .int a :: st) h := by
  by_cases hc : a ≤ b
  · refine am_pure ?_ (kt hc)
    rintro ⟨p, l', e', R, s, m, args, below, meth, c⟩ ⟨hx, hb, hml, hown, -, -, hts, -⟩
    exact fun H ls locs cells slots QQ hl kk => lv_icmp_le hx hb hd ht (fun _ => kk ls hl) (fun q => absurd hc q)
  · refine am_pure ?_ (kf hc)
    rintro ⟨p, l', e', R, s, m, args, below, meth, c⟩ ⟨hx, hb, hml, hown, -, -, hts, -⟩
    exact fun H ls locs cells slots QQ hl kk => lv_icmp_le hx hb hd ht (fun q => absurd q hc) (fun _ => kk ls hl)
theorem ag_lcmp {a b : Int64} {v : Int32} (hd : decode e.2.1 pc = .ok (.lcmp, 1)) (hv : lg_cmp a b = v) (k : am_G g l e d Q (pc + 1) lv (.int v :: st) h) : am_G g l e d Q pc lv (.long b :: .long a :: st) h := by
  refine am_pure ?_ k
  rintro ⟨p, l', e', R, s, m, args, below, meth, c⟩ ⟨hx, hb, hml, hown, -, -, hts, -⟩
  exact fun H ls locs cells slots QQ hl kk => by subst hv; exact W.lcmp hx hb hd (kk ls hl)
theorem ag_lookup {dflt : Int} {ps : Array (Int × Int)} {len : Nat} {a : Int32} {off : Int} {tgt : Nat} (hd : decode e.2.1 pc = .ok (.lookupswitch dflt ps, len)) (hp : (ps.toList.zip (ps.toList.drop 1)).all (fun (a, next) => a.1 < next.1) = true) (ho : Op.lookupswitch.offset ps.toList dflt a.toInt = off) (ht : (pc : Int) + off = (tgt : Int)) (k : am_G g l e d Q (tgt) lv (st) h) : am_G g l e d Q pc lv (.int a :: st) h := by
  refine am_pure ?_ k
  rintro ⟨p, l', e', R, s, m, args, below, meth, c⟩ ⟨hx, hb, hml, hown, -, -, hts, -⟩
  exact fun H ls locs cells slots QQ hl kk => lv_lookup hx hb hd hp ho ht (kk ls hl)
theorem ag_tableOut {dflt lo hi : Int} {offs : Array Int} {len : Nat} {a : Int32} {tgt : Nat} (hd : decode e.2.1 pc = .ok (.tableswitch dflt lo hi offs, len)) (h1 : a.toInt < lo ∨ hi < a.toInt) (ht : (pc : Int) + dflt = (tgt : Int)) (k : am_G g l e d Q (tgt) lv (st) h) : am_G g l e d Q pc lv (.int a :: st) h := by
  refine am_pure ?_ k
  rintro ⟨p, l', e', R, s, m, args, below, meth, c⟩ ⟨hx, hb, hml, hown, -, -, hts, -⟩
  exact fun H ls locs cells slots QQ hl kk => lv_tableOut hx hb hd h1 ht (kk ls hl)
theorem ag_tableIn {dflt lo hi : Int} {offs : Array Int} {len : Nat} {a : Int32} {off : Int} {tgt : Nat} (hd : decode e.2.1 pc = .ok (.tableswitch dflt lo hi offs, len)) (h1 : ¬ a.toInt < lo) (h2 : ¬ hi < a.toInt) (ho : offs[(a.toInt - lo).toNat]? = some off) (ht : (pc : Int) + off = (tgt : Int)) (k : am_G g l e d Q (tgt) lv (st) h) : am_G g l e d Q pc lv (.int a :: st) h := by
  refine am_pure ?_ k
  rintro ⟨p, l', e', R, s, m, args, below, meth, c⟩ ⟨hx, hb, hml, hown, -, -, hts, -⟩
  exact fun H ls locs cells slots QQ hl kk => lv_tableIn hx hb hd h1 h2 ho ht (kk ls hl)
end AG
