/-! Rows for reading and writing cells. -/
def am_wr (h : am_H) (a i : Nat) (v : Value) : am_H := (h.1, h.2.1, fun b => if b = a then ((h.2.2 a).1, (h.2.2 a).2.1, fun j => if j = i then v else (h.2.2 a).2.2 j) else h.2.2 b)
theorem am_ad_inj {g : am_P} (hg : g.2.1 < g.2.2) {a b : Nat} (h : am_ad g a = am_ad g b) : a = b := by
  cases a with
  | zero =>
    cases b with
    | zero => rfl
    | succ b => simp only [am_ad] at h; omega
  | succ a =>
    cases b with
    | zero => simp only [am_ad] at h; omega
    | succ b => simp only [am_ad] at h; omega
theorem am_ad_lt {g : am_P} {U : State} {h : am_H} {H : Heap} (hh : am_hold g U h H) {a : Nat} (ha : a < h.1) : am_ad g a < H.size := by
  obtain ⟨h1, h2, h3, -⟩ := hh
  cases a with
  | zero => simp only [am_ad]; omega
  | succ a => simp only [am_ad]; omega
theorem am_cell.kept {g : am_P} {U : State} {H H' : Heap} {a : Nat} {c : am_C} (h : am_cell g U H a c) (e : H'[am_ad g a]? = H[am_ad g a]?) : am_cell g U H' a c := by
  refine ⟨fun q => ?_, fun ty q => ?_⟩
  · obtain ⟨r, h1, h2, h3⟩ := h.1 q
    exact ⟨r, h1, h2, h3.kept e⟩
  · obtain ⟨cell, h1, h2⟩ := h.2 ty q
    exact ⟨cell, e.trans h1, h2⟩
/-- a cell is written, the others stay -/
theorem am_hold_wr {g : am_P} {U : State} {h : am_H} {H H' : Heap} {a i : Nat} {v : Value} (hh : am_hold g U h H) (hs : H'.size = H.size) (ho : ∀ q, q ≠ am_ad g a → H'[q]? = H[q]?)
    (hc : am_cell g U H' a ((h.2.2 a).1, (h.2.2 a).2.1, fun j => if j = i then v else (h.2.2 a).2.2 j)) : am_hold g U (am_wr h a i v) H' := by
  obtain ⟨h1, h2, h3, h4⟩ := hh
  refine ⟨h1, by rw [hs]; exact h2, h3, fun b hb => ?_⟩
  by_cases e : b = a
  · subst e
    show am_cell g U H' b (if b = b then _ else _)
    rw [if_pos rfl]
    exact hc
  · show am_cell g U H' b (if b = a then _ else _)
    rw [if_neg e]
    exact (h4 b hb).kept (ho _ fun q => e (am_ad_inj h3 q))
theorem am_wr_base {g : am_P} {a : Nat} (h : a ≠ 0) : g.2.2 ≤ am_ad g a := by
  cases a with
  | zero => exact absurd rfl h
  | succ a => exact Nat.le_add_right _ _
theorem am_st_wr {g : am_P} {x : am_T} {h : am_H} {H H' : Heap} {locs : List Loc} {a i k : Nat} {v : Value} (hh : am_st g x h H locs) (ha : a ≠ 0) (hs : H'.size = H.size) (ho : ∀ q, q ≠ am_ad g a → H'[q]? = H[q]?)
    (hc : am_cell g (am_s x) H' a ((h.2.2 a).1, (h.2.2 a).2.1, fun j => if j = i then v else (h.2.2 a).2.2 j)) : am_st g x (am_wr h a i v) H' (locs ++ [⟨am_ad g a, k⟩]) := by
  obtain ⟨h1, h2, h3⟩ := hh
  refine ⟨am_hold_wr h1 hs ho hc, fun q hq => ?_, fun q hq => ?_⟩
  · rw [ho q (fun e => by have := am_wr_base (g := g) ha; omega)]
    exact h2 q hq
  · rcases List.mem_append.mp hq with e | e
    · exact h3 q e
    · cases List.mem_singleton.mp e
      exact am_wr_base ha
/-- what the tables say of a class's fields -/
def am_cls (ci : Nat) (r : vw_C) : Prop := ci < 11 ∧ vwCl[ci]? = some r ∧ (∀ w ∈ u_ws r.1 r.2.1 r.2.2, w ∈ am_tbl) ∧ ∃ ty : Nat → FieldType, (∀ k, k < r.2.2 → parseFieldDescriptor (r.2.1 k).2.2.1 = some (ty k)) ∧ ∀ a, a < r.2.2 → ∀ b, b < r.2.2 → a ≠ b → (r.2.1 a).2.1 ≠ (r.2.1 b).2.1
/-- the entry i of the class own names the field k of the class ci -/
def am_fw (own : String) (i ci k : Nat) : Prop := ∃ r : vw_C, am_cls ci r ∧ k < r.2.2 ∧ Cond.fieldLink own i (r.2.1 k).1 (r.2.1 k).2.1 (r.2.1 k).2.2.1 ∈ am_tbl
/-- .. it may be written with v: by anyone (false), by a constructor (true) -/
def am_pw (own : String) (i ci k : Nat) (fin : Bool) (ty : FieldType) : Prop := ∃ r : vw_C, am_cls ci r ∧ k < r.2.2 ∧ Cond.fieldLink own i (r.2.1 k).1 (r.2.1 k).2.1 (r.2.1 k).2.2.1 ∈ am_tbl ∧ (r.2.1 k).2.2.2 = fin ∧ parseFieldDescriptor (r.2.1 k).2.2.1 = some ty ∧ (fin = true → (r.2.1 k).1 = own)
/-- an index within -/
def am_ix (i : Int32) (j n : Nat) : Prop := ¬ i < 0 ∧ i.toNatClampNeg = j ∧ j < n
theorem am_ix_n {j n : Nat} (h : j < n) (hn : n ≤ 2 ^ 31) : am_ix (nI j) j n := ⟨nI_pos (by omega), nI_clamp (by omega), h⟩
section AH
variable {g : am_P} {l : Launch} {e : am_E} {d : Nat} {Q : am_R → am_H → Prop} {pc : Nat} {lv : am_L} {st : List Value} {h : am_H}
/-- a row that reads: the heap stays -/
theorem am_read {pc' : Nat} {st' : List Value} (f : ∀ x : am_T, am_ok g l e d x → ∀ (H : Heap) (ls : Array Slot) (locs : List Loc) (cells slots : Nat) (QQ : State → Prop), am_st g x h H locs → am_W x H locs cells slots QQ pc' ls (st'.map (am_tv g)) → am_W x H locs cells slots QQ pc ls (st.map (am_tv g)))
    (k : am_G g l e d Q pc' lv st' h) : am_G g l e d Q pc lv st h := by
  obtain ⟨r, h', hq, h1, h2, k⟩ := k
  exact ⟨r, h', hq, h1, h2, fun x C H ls locs cells slots QQ a b c d e => f x C H ls locs cells slots QQ a (k x C H ls locs cells slots QQ a b c d e)⟩
/-- a row that writes: no cell comes -/
theorem am_write {pc' : Nat} {st' : List Value} {h2 : am_H} (e1 : h2.1 = h.1) (e2 : h2.2.1 = h.2.1) (f : ∀ x : am_T, am_ok g l e d x → ∀ (H : Heap) (ls : Array Slot) (locs : List Loc) (cells slots : Nat) (QQ : State → Prop), am_st g x h H locs → (∀ (H' : Heap) (locs' : List Loc), am_st g x h2 H' locs' → am_W x H' locs' cells slots QQ pc' ls (st'.map (am_tv g))) → am_W x H locs cells slots QQ pc ls (st.map (am_tv g)))
    (k : am_G g l e d Q pc' lv st' h2) : am_G g l e d Q pc lv st h := by
  obtain ⟨r, h', hq, h1, h3, k⟩ := k
  rw [e1] at h1 k
  rw [e2] at h3 k
  exact ⟨r, h', hq, h1, h3, fun x C H ls locs cells slots QQ a b c d e => f x C H ls locs cells slots QQ a fun H' locs' a' => k x C H' ls locs' cells slots QQ a' b c d e⟩
theorem ag_get {i a ci k n : Nat} {f : Nat → Value} {v : Value} (hd : decode e.2.1 pc = .ok (.getfield i, 3)) (hf : am_fw e.1.cls i ci k) (ha : a < h.1) (hc : h.2.2 a = (ci, n, f)) (hv : f k = v) (kk : am_G g l e d Q (pc + 3) lv (v :: st) h) : am_G g l e d Q pc lv (.ref a :: st) h := by
  obtain ⟨r, ⟨hci, hcl, hin, -⟩, hk, hlink⟩ := hf
  refine am_read ?_ kk
  rintro ⟨p, l', e', R, s, m, args, below, meth, c⟩ ⟨hx, hb, hml, hown, -, -, hts, hK, -⟩ H ls locs cells slots QQ hS kk
  have h1 := (hS.1.2.2.2 a ha).1
  rw [hc] at h1
  obtain ⟨r', e1, e2, cell, q1, q2, q3, q4⟩ := h1 hci
  have hr : r' = r := Option.some.inj (e1.symm.trans hcl)
  subst hr
  obtain ⟨hSl, hfc, kC, hkC, hkind⟩ := hK.1 ci _ hcl
  obtain ⟨cf, kf, fi, fd, hi, hsl⟩ := hSl k hk
  refine W.getf hx hb hown (hts _ hlink) hi (u_facts hfc hkC (u_lays hts hin hk) hi).1 q1 (by rw [q3]; exact fun h => by cases h) (v := am_tv g v) ?_ rfl rfl hd kk
  rw [hsl, q4 k hk]
  exact congrArg (fun z => some (am_tv g z)) hv
theorem am_put_cell {ci k n : Nat} {f : Nat → Value} {U : State} {H' : Heap} {a : Nat} {r : vw_C} {cell' : Cell} {v : Value} (hci : ci < 11) (hcl : vwCl[ci]? = some r) (hn : n = r.2.2) (e1 : H'[am_ad g a]? = some cell') (q2 : cell'.cls = g.1.1 ci) (q3 : cell'.vm = .none)
    (q4 : ∀ j, j < r.2.2 → cell'.slots[g.1.2 ci j]? = some (updV (fun k => am_tv g (f k)) k (am_tv g v) j)) : am_cell g U H' a (ci, n, fun j => if j = k then v else f j) := by
  refine ⟨fun _ => ⟨r, hcl, hn, cell', e1, q2, q3, fun j hj => ?_⟩, fun ty hty => ?_⟩
  · rw [q4 j hj]
    simp only [updV]
    split <;> rfl
  · exfalso
    simp only at hty
    unfold am_aty at hty
    split at hty <;> first | omega | cases hty
theorem ag_put {i a ci k n : Nat} {f : Nat → Value} {ty : FieldType} {v : Value} (hd : decode e.2.1 pc = .ok (.putfield i, 3)) (hf : am_pw e.1.cls i ci k false ty) (ha : a < h.1) (h0 : a ≠ 0) (hc : h.2.2 a = (ci, n, f)) (hv : ∀ g : am_P, narrow ty (am_tv g v) = am_tv g v ∧ fits ty (am_tv g v) = true) (kk : am_G g l e d Q (pc + 3) lv st (am_wr h a k v)) : am_G g l e d Q pc lv (v :: .ref a :: st) h := by
  obtain ⟨r, ⟨hci, hcl, hin, ty0, hty, hnm⟩, hk, hlink, hfin, hd1, -⟩ := hf
  refine am_write (h2 := am_wr h a k v) rfl rfl ?_ kk
  rintro ⟨p, l', e', R, s, m, args, below, meth, c⟩ ⟨hx, hb, hml, hown, -, -, hts, hK, -⟩ H ls locs cells slots QQ hS kk
  have h1 := (hS.1.2.2.2 a ha).1
  rw [hc] at h1
  obtain ⟨r', e1, e2, cell, q1, q2, q3, q4⟩ := h1 hci
  have hr : r' = r := Option.some.inj (e1.symm.trans hcl)
  subst hr
  have hap := va_apart (own := e.1.cls) hts hin ty0 hty hnm hK hcl
  obtain ⟨hSl, hfc, kC, hkC, hkind⟩ := hK.1 ci _ hcl
  obtain ⟨cf, kf, fi, fd, hi, hsl⟩ := hSl k hk
  have hlay := hts _ (hin _ (u_in_lay hk))
  unfold u_lay at hlay
  rw [if_neg (by rw [hfin]; decide)] at hlay
  have hst := (u_facts hfc hkC (u_lays hts hin hk) hi).1
  have h6 := u_store hfc hkC hkind hlay hi hd1 (hv g).1 (hv g).2
  refine W.putK hx hb (f := fd) ⟨hown, hts _ hlink, ⟨_, _, _, hi⟩, hst⟩ (by rw [q2]; exact h6) q1 q3 (by rw [hsl]; exact k2_hasslot (q4 k hk)) rfl rfl hd fun H' f1 f2 f3 => ?_
  rw [hsl] at f1
  refine kk H' _ (am_st_wr hS h0 f2 f3 ?_)
  rw [hc]
  exact am_put_cell hci hcl e2 f1 q2 q3 (t_set q4 hap hk _)
theorem ag_putF {i a ci k n : Nat} {f : Nat → Value} {ty : FieldType} {v : Value} (hd : decode e.2.1 pc = .ok (.putfield i, 3)) (hin2 : e.1.name = "<init>") (hf : am_pw e.1.cls i ci k true ty) (ha : a < h.1) (h0 : a ≠ 0) (hc : h.2.2 a = (ci, n, f)) (hv : ∀ g : am_P, narrow ty (am_tv g v) = am_tv g v ∧ fits ty (am_tv g v) = true) (kk : am_G g l e d Q (pc + 3) lv st (am_wr h a k v)) : am_G g l e d Q pc lv (v :: .ref a :: st) h := by
  obtain ⟨r, ⟨hci, hcl, hin, ty0, hty, hnm⟩, hk, hlink, hfin, hd1, hdecl⟩ := hf
  have hdecl := hdecl rfl
  refine am_write (h2 := am_wr h a k v) rfl rfl ?_ kk
  rintro ⟨p, l', e', R, s, m, args, below, meth, c⟩ ⟨hx, hb, hml, hown, -, -, hts, hK, -, -, -, hmn⟩ H ls locs cells slots QQ hS kk
  have h1 := (hS.1.2.2.2 a ha).1
  rw [hc] at h1
  obtain ⟨r', e1, e2, cell, q1, q2, q3, q4⟩ := h1 hci
  have hr : r' = r := Option.some.inj (e1.symm.trans hcl)
  subst hr
  have hap := va_apart (own := e.1.cls) hts hin ty0 hty hnm hK hcl
  obtain ⟨hSl, hfc, kC, hkC, hkind⟩ := hK.1 ci _ hcl
  obtain ⟨cf, kf, fi, fd, hi, hsl⟩ := hSl k hk
  have hlay := hts _ (hin _ (u_in_lay hk))
  unfold u_lay at hlay
  rw [if_pos hfin] at hlay
  have hst := (u_facts hfc hkC (u_lays hts hin hk) hi).1
  have hcf : m.cls = cf := by
    obtain ⟨_, _, c', _, _, _, -, -, hf', -, -, -, hown2, -⟩ := Cond.laysFinal_spec hlay
    have e1 : c' = cf := by have := hi.symm.trans hf'; simp at this; exact this.1.symm
    rw [hdecl] at hown2
    rw [← e1]; exact Option.some.inj (hown.symm.trans hown2)
  have h6 := u_fits hfc hkC hkind (Or.inr hlay) hi hd1 (hv g).1 (hv g).2
  refine W.putFinK hx hb hown (hts _ hlink) hi hst hcf (hmn.1.trans hin2) (by rw [q2]; exact h6) q1 q3 (by rw [hsl]; exact k2_hasslot (q4 k hk)) rfl rfl hd fun H' f1 f2 f3 => ?_
  rw [hsl] at f1
  refine kk H' _ (am_st_wr hS h0 f2 f3 ?_)
  rw [hc]
  exact am_put_cell hci hcl e2 f1 q2 q3 (t_set q4 hap hk _)
end AH
