/-! Rows for the law and its wrappers, over typed heaps. -/
def cMW (c : cX) (d : Nat) (e : am_E) (hh : List (Nat × Nat × Nat × Nat)) (as : List Value) (C : cS) (K : Option Value → cS → Prop) : Prop := am_MtW c.2 c.1 d e hh as (cH C) (fun v h' => ∃ C', h' = cH C' ∧ K v C')
theorem cMW.mono {c : cX} {d : Nat} {e : am_E} {hh : List (Nat × Nat × Nat × Nat)} {as : List Value} {C : cS} {K K' : Option Value → cS → Prop} (k : cMW c d e hh as C K) (f : ∀ v C', K v C' → K' v C') : cMW c d e hh as C K' := am_MtW.mono k fun _ _ ⟨C', h1, h2⟩ => ⟨C', h1, f _ _ h2⟩
def cMX (c : cX) (d : Nat) (e : am_E) (as : List Value) (C : cS) (K : Option Value → cS → Prop) (X : String → cS → Prop) : Prop := am_MtX c.2 c.1 d e as (cH C) (cQx K X)
theorem cMX.mono {c : cX} {d : Nat} {e : am_E} {as : List Value} {C : cS} {K K' : Option Value → cS → Prop} {X X' : String → cS → Prop} (k : cMX c d e as C K X) (f : ∀ v C', K v C' → K' v C') (f2 : ∀ E C', X E C' → X' E C') : cMX c d e as C K' X' := am_MtX.mono k fun r h' hq => by
  rcases hq with ⟨v, h1, C', h2, h3⟩ | ⟨E, C', h1, h2, h3⟩
  · exact Or.inl ⟨v, h1, C', h2, f _ _ h3⟩
  · exact Or.inr ⟨E, C', h1, h2, f2 _ _ h3⟩
theorem cMW.of {c : cX} {d : Nat} {e : am_E} {hh : List (Nat × Nat × Nat × Nat)} {as : List Value} {C : cS} {K : Option Value → cS → Prop} {lv : am_L} (hy : plainName e.1.cls = true) (hlen : (am_sl as).length ≤ e.2.2.1) (hen : am_en e.2.2.1 as = lv) (k : cG c e d (cQ K) 0 lv [] C) : cMW c d e hh as C K := am_MtW.of hy hlen hen k
theorem cMX.of {c : cX} {d : Nat} {e : am_E} {as : List Value} {C : cS} {K : Option Value → cS → Prop} {X : String → cS → Prop} {lv : am_L} (hs : c.2.stackTraces = false) (hy : plainName e.1.cls = true) (hlen : (am_sl as).length ≤ e.2.2.1) (hen : am_en e.2.2.1 as = lv) (hxs : ∀ E ik ic, am_xw (some e.1.cls) E ik ic → am_xs e.1.cls E ik ic) (k : cG c e d (cQx K X) 0 lv [] C) : cMX c d e as C K X := am_MtX.of hs hy hlen hen hxs k
/-- the script: cell 0 -/
def cT0 (C : cS) (L : Nat) : Prop := 0 < C.1 ∧ C.2.2.1 0 = (20, L)
theorem cT0.c {C : cS} {L : Nat} (h : cT0 C L) : (cH C).2.2 0 = (20, L, fun i => cv C 0 i) := by
  show ((C.2.2.1 0).1, (C.2.2.1 0).2, fun i => cv C 0 i) = _
  rw [h.2]
theorem cT0.le {C C' : cS} {L : Nat} (h : cT0 C L) (k : cle C C') : cT0 C' L := ⟨Nat.lt_of_lt_of_le h.1 k.1, (k.2 0 h.1).trans h.2⟩
section LR
variable {c : cX} {e : am_E} {d : Nat} {Q : am_R → am_H → Prop} {pc : Nat} {lv : am_L} {st : List Value} {C : cS}
theorem cr_sil {x : Int32} {j L : Nat} {v : Int32} (hd : decode e.2.1 pc = .ok (.iaload, 1)) (hT : cT0 C L) (hi : am_ix x j L) (hv : cI C 0 j = v) (kk : cG c e d Q (pc + 1) lv (.int v :: st) C) : cG c e d Q pc lv (.int x :: .ref 0 :: st) C := by
  subst hv
  refine ag_iald hd hT.1 hT.c hi ?_ kk
  show cv C 0 j = _
  unfold cv
  rw [hT.2]
  rfl
theorem cr_slen {L : Nat} (hd : decode e.2.1 pc = .ok (.arraylength, 1)) (hT : cT0 C L) (kk : cG c e d Q (pc + 1) lv (.int (nI L) :: st) C) : cG c e d Q pc lv (.ref 0 :: st) C := ag_alen hd hT.1 hT.c (by decide) kk
theorem cr_callSW {i n : Nat} {e2 : am_E} {hh : List (Nat × Nat × Nat × Nat)} {as rest : List Value} (hd : decode e.2.1 pc = .ok (.invokestatic i, 3)) (hm : Cond.codeWith e2.1 e2.2.1 e2.2.2.1 e2.2.2.2 hh ∈ am_tbl ∧ Cond.initialized e2.1.cls ∈ am_tbl ∧ (e2.1.cls ≠ "java/lang/invoke/MethodHandle" ∧ e2.1.cls ≠ "java/lang/invoke/VarHandle" ∧ (parseMethodDescriptor e2.1.desc).map (fun d => d.parameters.length) = some n) ∧ e2.2.2.1 ≤ 40) (hs : Cond.static e2.1 ∈ am_tbl) (hl : am_lk e.1.cls i e2) (hn : as.length = n) (hst : as.reverse ++ rest = st) (hcat : (rest.map fun v => v.category).sum ≤ 8)
    (k : cMW c d e2 hh as C (fun v C' => cG c e (d + 1) Q (pc + 3) lv (v.toList ++ rest) C')) : cG c e (d + 1) Q pc lv st C :=
  ag_callSW hd hm hs hl hn hst hcat (am_MtW.mono k fun v h' ⟨C', h1, h2⟩ => by subst h1; exact h2)
/-- a thrown thing's cell: what it holds doesn't matter -/
theorem cr_ex {f : Nat → Value} (k : cG c e d Q pc lv st (cnw C 99 6)) : am_G c.1 c.2 e d Q pc lv st (am_nw (cH C) 99 6 f) := by
  obtain ⟨r, h', hq, h1, h2, k⟩ := k
  refine ⟨r, h', hq, h1, h2, fun x Cx H ls locs cells slots QQ hS hl hc1 hc2 hE => k x Cx H ls locs cells slots QQ ?_ hl hc1 hc2 hE⟩
  obtain ⟨⟨a1, a2, a3, a4⟩, a5, a6⟩ := hS
  refine ⟨⟨a1, a2, a3, fun a ha => ?_⟩, a5, a6⟩
  have h9 := a4 a ha
  by_cases ea : a = C.1
  · subst ea
    have e1 : ((cH (cnw C 99 6)).2.2 C.1) = (99, 6, fun i => cv (cnw C 99 6) C.1 i) := by
      show (((if C.1 = C.1 then (99, 6) else C.2.2.1 C.1) : Nat × Nat).1, ((if C.1 = C.1 then (99, 6) else C.2.2.1 C.1) : Nat × Nat).2, _) = _
      rw [if_pos rfl]
    rw [e1]
    exact ⟨fun q => absurd q (show ¬ 99 < 11 by decide), fun ty hty => by cases hty⟩
  · have e1 : (am_nw (cH C) 99 6 f).2.2 a = (cH (cnw C 99 6)).2.2 a := by
      show (if a = C.1 then _ else (cH C).2.2 a) = (((if a = C.1 then (99, 6) else C.2.2.1 a) : Nat × Nat).1, ((if a = C.1 then (99, 6) else C.2.2.1 a) : Nat × Nat).2, fun i => cv (cnw C 99 6) a i)
      rw [if_neg ea, if_neg ea]
      refine Prod.ext rfl (Prod.ext rfl (funext fun i => ?_))
      show cv C a i = cv (cnw C 99 6) a i
      simp [cv, cnw, ea, cI, cJ, cR]
    rw [← e1]
    exact h9
theorem cr_callX {i a n nn : Nat} {e2 : am_E} {hh : List (Nat × Nat × Nat × Nat)} {as rest : List Value} (hd : decode e.2.1 pc = .ok (.invokevirtual i, 3)) (hm : am_me e2 n) (hi : am_mi e2 9) (hl : am_lk e.1.cls i e2) (hT : cT C a 9 nn) (hn : as.length = n) (hst : as.reverse ++ .ref a :: rest = st) (hcat : (rest.map fun v => v.category).sum ≤ 8) (hcw : Cond.codeWith e.1 e.2.1 e.2.2.1 e.2.2.2 hh ∈ am_tbl)
    (k : cMX c d e2 (.ref a :: as) C (fun v C' => cG c e (d + 1) Q (pc + 3) lv (v.toList ++ rest) C') (fun E C' => ∃ hpc k len : Nat, am_ct e.1.cls hh pc E hpc ∧ k < e.2.2.1 ∧ am_hst e.2.1 hpc k len ∧ cG c e (d + 1) Q (hpc + len) (List.replicate e.2.2.1 none) [] (cnw C' 99 6))) : cG c e (d + 1) Q pc lv st C := by
  refine ag_callX (hh := hh) hd hm hi hl hT.2.1 (by rw [hT.c]) hn hst hcat hcw (am_MtX.mono k fun r h' hq => ?_)
  rcases hq with ⟨v, rfl, C', rfl, h3⟩ | ⟨E, C', rfl, rfl, hpc, k9, len, h1, h2, h3, h4⟩
  · exact h3
  · exact ⟨hpc, k9, len, h1, h2, h3, cr_ex h4⟩
end LR
