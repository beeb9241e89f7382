/-! Rows for new cells. -/
theorem am_tv_def (g : am_P) (ty : FieldType) : am_tv g (defaultValue ty) = defaultValue ty := by cases ty <;> rfl
theorem am_ad_top {g : am_P} {U : State} {h : am_H} {H : Heap} (hh : am_hold g U h H) : am_ad g h.1 = H.size := by
  obtain ⟨h1, h2, -, -⟩ := hh
  obtain ⟨k, hk⟩ : ∃ k, h.1 = k + 1 := ⟨h.1 - 1, by omega⟩
  rw [hk] at h2 ⊢
  simp only [am_ad]
  omega
/-- a cell comes at the end -/
theorem am_hold_nw {g : am_P} {U : State} {h : am_H} {H H' : Heap} {t n : Nat} {f : Nat → Value} (hh : am_hold g U h H) (hs : H'.size = H.size + 1) (ho : ∀ q, q < H.size → H'[q]? = H[q]?) (hc : am_cell g U H' h.1 (t, n, f)) : am_hold g U (am_nw h t n f) H' := by
  have hlt := @am_ad_lt g U h H hh
  obtain ⟨h1, h2, h3, h4⟩ := hh
  refine ⟨by show 1 ≤ h.1 + 1; omega, by show H'.size + 1 = g.2.2 + (h.1 + 1); omega, h3, fun b hb => ?_⟩
  by_cases e : b = h.1
  · subst e
    show am_cell g U H' h.1 (if h.1 = h.1 then _ else _)
    rw [if_pos rfl]
    exact hc
  · show am_cell g U H' b (if b = h.1 then _ else _)
    rw [if_neg e]
    have hb' : b < h.1 := by have : b < h.1 + 1 := hb; omega
    exact (h4 b hb').kept (ho _ (hlt hb'))
theorem am_st_nw {g : am_P} {x : am_T} {h : am_H} {H H' : Heap} {locs : List Loc} {t n : Nat} {f : Nat → Value} (hh : am_st g x h H locs) (hs : H'.size = H.size + 1) (ho : ∀ q, q < H.size → H'[q]? = H[q]?) (hc : am_cell g (am_s x) H' h.1 (t, n, f)) : am_st g x (am_nw h t n f) H' locs := by
  obtain ⟨h1, h2, h3⟩ := hh
  refine ⟨am_hold_nw h1 hs ho hc, fun q hq => ?_, h3⟩
  obtain ⟨g1, g2, g3, -⟩ := h1
  rw [ho q (by omega)]
  exact h2 q hq
def am_nwd (own : String) (i ci : Nat) (r : vw_C) : Prop := am_cls ci r ∧ Cond.classLink own i r.1 ∈ am_tbl ∧ Cond.instantiable r.1 r.2.2 ∈ am_tbl ∧ Cond.initialized r.1 ∈ am_tbl
section AJ
variable {g : am_P} {l : Launch} {e : am_E} {d : Nat} {Q : am_R → am_H → Prop} {pc : Nat} {lv : am_L} {st : List Value} {h : am_H}
theorem am_fresh {pc' t n : Nat} {f : Nat → Value} {st' : List Value} (F : ∀ x : am_T, am_ok g l e d x → ∀ (H : Heap) (ls : Array Slot) (locs : List Loc) (cells slots : Nat) (QQ : State → Prop), am_st g x h H locs → cells + 1 ≤ (am_rm x).cells → slots + n ≤ (am_rm x).slots → (∀ H' : Heap, am_st g x (am_nw h t n f) H' locs → am_W x H' locs (cells + 1) (slots + n) QQ pc' ls (st'.map (am_tv g))) → am_W x H locs cells slots QQ pc ls (st.map (am_tv g)))
    (k : am_G g l e d Q pc' lv st' (am_nw h t n f)) : am_G g l e d Q pc lv st h := by
  obtain ⟨r, h', hq, h1, h2, k⟩ := k
  have h1' : h.1 + 1 ≤ h'.1 := h1
  have h2' : h.2.1 + n ≤ h'.2.1 := h2
  refine ⟨r, h', hq, by omega, by omega, fun x C H ls locs cells slots QQ a b c d e => F x C H ls locs cells slots QQ a (by omega) (by omega) fun H' a' => ?_⟩
  have e1 : cells + 1 + (h'.1 - (am_nw h t n f).1) = cells + (h'.1 - h.1) := by show cells + 1 + (h'.1 - (h.1 + 1)) = _; omega
  have e2 : slots + n + (h'.2.1 - (am_nw h t n f).2.1) = slots + (h'.2.1 - h.2.1) := by show slots + n + (h'.2.1 - (h.2.1 + n)) = _; omega
  exact k x C H' ls locs (cells + 1) (slots + n) QQ a' b (by rw [e1]; exact c) (by rw [e2]; exact d) (by rw [e1, e2]; exact e)
theorem ag_new {i ci : Nat} {r : vw_C} {f : Nat → Value} (hd : decode e.2.1 pc = .ok (.new i, 3)) (hw : am_nwd e.1.cls i ci r) (hf : ∀ k, k < r.2.2 → ∃ t : FieldType, parseFieldDescriptor (r.2.1 k).2.2.1 = some t ∧ f k = defaultValue t) (kk : am_G g l e d Q (pc + 3) lv (.ref h.1 :: st) (am_nw h ci r.2.2 f)) : am_G g l e d Q pc lv st h := by
  obtain ⟨⟨hci, hcl, hin, ty0, hty, hnm⟩, w1, w2, w3⟩ := hw
  refine am_fresh ?_ kk
  rintro ⟨p, l', e', R, s, m, args, below, meth, c⟩ ⟨hx, hb, hml, hown, -, -, hts, hK, -⟩ H ls locs cells slots QQ hS hc1 hc2 kk
  have hKn := hK.1 ci _ hcl
  refine W.newcK hx hb hown (hts _ w1) (hts _ w2) (hts _ w3) rfl hd hc1 hc2 hKn.2.1 rfl fun H1 kC hkC e1 z1 o1 => ?_
  have htop : am_ad g h.1 = H.size := am_ad_top hS.1
  have hk := kk H1 (am_st_nw hS z1 o1 ⟨fun _ => ⟨r, hcl, rfl, (u_born ty0 hts hin hKn hkC (by rw [htop]; exact e1) hty).to fun k hk => ?_⟩, fun ty h => ?_⟩)
  · simp only [List.map_cons, am_tv, htop] at hk
    exact hk
  · obtain ⟨t, t1, t2⟩ := hf k hk
    have : t = ty0 k := Option.some.inj (t1.symm.trans (hty k hk))
    subst this
    show _ = am_tv g (f k)
    rw [t2, am_tv_def]
  · exfalso
    simp only at h
    unfold am_aty at h
    split at h <;> first | omega | cases h
theorem ag_newa {ty : ArrayType} {i : Int32} {n t : Nat} {z : Value} (hd : decode e.2.1 pc = .ok (.newarray ty, 2)) (ht : am_aty t = some (newarray.typeOf ty)) (hw : Cond.arrayClass (newarray.typeOf ty) ∈ am_tbl) (hi : ¬ i < 0) (hn : i.toNatClampNeg = n) (hs : n ≤ 1000) (hz : defaultValue (newarray.typeOf ty) = z) (kk : am_G g l e d Q (pc + 2) lv (.ref h.1 :: st) (am_nw h t n (fun _ => z))) : am_G g l e d Q pc lv (.int i :: st) h := by
  refine am_fresh ?_ kk
  rintro ⟨p, l', e', R, s, m, args, below, meth, c⟩ ⟨hx, hb, hml, hown, -, -, hts, hK, -⟩ H ls locs cells slots QQ hS hc1 hc2 kk
  have hcb : componentBytes (newarray.typeOf ty) ≤ 8 := by cases ty <;> decide
  refine W.newaK hx hb (hts _ hw) rfl hd rfl hi hn (Nat.le_trans (Nat.mul_le_mul hs hcb) (by decide)) hc1 hc2 rfl fun H1 cA e1 z1 o1 hA => ?_
  have htop : am_ad g h.1 = H.size := am_ad_top hS.1
  have hk := kk H1 (am_st_nw hS z1 o1 ⟨fun q => ?_, fun ty' h' => ⟨_, by rw [htop]; exact e1, ?_, ?_, ?_, ?_, ?_, ?_⟩⟩)
  · simp only [List.map_cons, am_tv, htop] at hk
    exact hk
  · exfalso
    simp only at q
    unfold am_aty at ht
    split at ht <;> first | omega | cases ht
  · have : ty' = newarray.typeOf ty := Option.some.inj (h'.symm.trans ht)
    subst this
    exact hA _ _
  · exact fun q => by cases q
  · exact arrV_size _ _ _
  · show n < 2 ^ 31
    omega
  · intro j hj
    have hj' : j < n := hj
    rw [← hz]
    simp [arrV, hj', am_tv_def]
  · have : ty' = newarray.typeOf ty := Option.some.inj (h'.symm.trans ht)
    subst this
    cases ty <;> exact trivial
theorem ag_anew {i : Int32} {ix n t : Nat} {N : String} (hd : decode e.2.1 pc = .ok (.anewarray ix, 3)) (ht : am_aty t = some (.object N)) (hw : Cond.classLink e.1.cls ix N ∈ am_tbl) (hN : N = "TypedLisp$Finding" ∨ N = "TypedLisp$Function" ∨ N = "TypedLisp$View") (hi : ¬ i < 0) (hn : i.toNatClampNeg = n) (hs : n ≤ 1000) (kk : am_G g l e d Q (pc + 3) lv (.ref h.1 :: st) (am_nw h t n (fun _ => .null))) : am_G g l e d Q pc lv (.int i :: st) h := by
  subst hn
  refine am_fresh ?_ kk
  rintro ⟨p, l', e', R, s, m, args, below, meth, c⟩ ⟨hx, hb, hml, hown, -, -, hts, hK, hF, -⟩ H ls locs cells slots QQ hS hc1 hc2 kk
  have hAO : va_AO N s := by
    rcases hN with rfl | rfl | rfl
    · exact hF.2.1
    · exact hF.2.2.1
    · exact hF.2.2.2.1
  refine W.anew hx hb hown (hts _ hw) hAO.use rfl hd rfl hi (by omega) hc1 hc2 fun cA kA comp a1 a2 a3 a4 => ?_
  have htop : am_ad g h.1 = H.size := am_ad_top hS.1
  have hk := kk (H.push { cls := cA, slots := Array.replicate i.toNatClampNeg .null, vm := .none }) (am_st_nw hS (by simp) (fun q hq => by rw [Array.getElem?_push, if_neg (Nat.ne_of_lt hq)]) ⟨fun q => ?_, fun ty' h' => ⟨{ cls := cA, slots := Array.replicate i.toNatClampNeg .null, vm := .none }, by rw [htop]; simp, ?_, ?_, ?_, ?_, ?_, ?_⟩⟩)
  · simp only [List.map_cons, am_tv, htop] at hk
    exact hk
  · exfalso
    simp only at q
    unfold am_aty at ht
    split at ht <;> first | omega | cases ht
  · have : ty' = .object N := Option.some.inj (h'.symm.trans ht)
    subst this
    exact ⟨fun k h => (by cases h), kA, a2, comp, a3⟩
  · exact fun q => by cases q
  · simp
  · show i.toNatClampNeg < 2 ^ 31
    omega
  · intro j hj
    have hj' : j < i.toNatClampNeg := hj
    simp [hj', am_tv]
  · have : ty' = .object N := Option.some.inj (h'.symm.trans ht)
    subst this
    exact ⟨kA, comp, a2, a3, a4⟩
end AJ
