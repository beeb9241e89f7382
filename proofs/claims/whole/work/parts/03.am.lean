/-! An abstract machine over the kit's rows: a heap of cells by number, values that name cells by number; every judgement carries the whole heap. -/
/-- a cell: a tag (a class of vwCl below 11, an array 20 .. 27, else unknown), how many places, what they hold -/
abbrev am_C : Type := Nat × Nat × (Nat → Value)
/-- a heap: how many cells, how many slots, the cells -/
abbrev am_H : Type := Nat × Nat × (Nat → am_C)
/-- what a method ends with: a value or none, or a thrown thing of a named kind -/
abbrev am_R : Type := Option Value ⊕ String
abbrev am_L : Type := List (Option Value)
/-- a method: its name, code, locals, what it returns -/
abbrev am_E : Type := MethodName × ByteArray × Nat × Option FieldType
/-- a body's machine -/
abbrev am_T : Type := Program × Launch × Env × Room × State × MethodId × Array Value × List Frame × Method × Code
/-- the places of classes and fields; the script's cell; the first new cell -/
abbrev am_P : Type := va_G × Nat × Nat
def am_ad (g : am_P) : Nat → Nat
  | 0 => g.2.1
  | k + 1 => g.2.2 + k
def am_tv (g : am_P) : Value → Value
  | .ref a => .ref (am_ad g a)
  | .int x => .int x
  | .long x => .long x
  | .float x => .float x
  | .double x => .double x
  | .null => .null
  | .retAddr x => .retAddr x
theorem am_tv_cat (g : am_P) (v : Value) : (am_tv g v).category = v.category := by cases v <;> rfl
theorem am_cats (g : am_P) (st : List Value) : ((st.map (am_tv g)).map fun v => v.category) = st.map fun v => v.category := by
  rw [List.map_map]
  exact List.map_congr_left fun v _ => am_tv_cat g v
/-- locals -/
def am_lv (g : am_P) (ls : Array Slot) (nL : Nat) (lv : am_L) : Prop := ls.size = nL ∧ lv_wf ls ∧ lv.length = nL ∧ ∀ (i : Nat) (v : Value), lv[i]? = some (some v) → ls[i]? = some (.val (am_tv g v))
def am_pr (g : am_P) (lv : am_L) : List (Nat × Value) := (List.range lv.length).filterMap fun i => (lv[i]?.join).map fun v => (i, am_tv g v)
theorem am_pr_mem {g : am_P} {lv : am_L} {i : Nat} {v : Value} (h : lv[i]? = some (some v)) : (i, am_tv g v) ∈ am_pr g lv := by
  unfold am_pr
  rw [List.mem_filterMap]
  exact ⟨i, List.mem_range.mpr (List.getElem?_eq_some_iff.mp h).1, by rw [h]; rfl⟩
theorem am_lv.has {g : am_P} {ls : Array Slot} {nL : Nat} {lv : am_L} (h : am_lv g ls nL lv) : lv_has ls nL (am_pr g lv) := by
  refine ⟨h.1, h.2.1, fun q hq => ?_⟩
  unfold am_pr at hq
  rw [List.mem_filterMap] at hq
  obtain ⟨i, -, hi⟩ := hq
  cases e : lv[i]? with
  | none => rw [e] at hi; cases hi
  | some o =>
    cases o with
    | none => rw [e] at hi; cases hi
    | some v =>
      rw [e] at hi
      cases hi
      exact h.2.2.2 i v e
/-- a local that is no longer whole when the place behind it is written -/
def am_kill (lv : am_L) : Nat → am_L
  | 0 => lv
  | j + 1 => match lv[j]? with
    | some (some w) => if w.category = 2 then lv.set j none else lv
    | _ => lv
def am_st1 (lv : am_L) (i : Nat) (v : Option Value) : am_L := (am_kill lv i).set i v
def am_st2 (lv : am_L) (i : Nat) (v : Option Value) : am_L := ((am_kill lv i).set i v).set (i + 1) none
theorem am_kill_len (lv : am_L) (i : Nat) : (am_kill lv i).length = lv.length := by
  cases i with
  | zero => rfl
  | succ j =>
    simp only [am_kill]
    split
    · split
      · simp
      · rfl
    · rfl
theorem am_kill_at {lv : am_L} {i j : Nat} {v : Value} (h : (am_kill lv i)[j]? = some (some v)) : lv[j]? = some (some v) ∧ ¬ (j + 1 = i ∧ v.category = 2) := by
  cases i with
  | zero => exact ⟨h, fun q => absurd q.1 (Nat.succ_ne_zero j)⟩
  | succ k =>
    simp only [am_kill] at h
    split at h
    · rename_i w hw
      split at h
      · by_cases e : j = k
        · subst e
          rw [List.getElem?_set] at h
          split at h
          · split at h
            · cases h
            · cases h
          · rename_i hne; exact absurd rfl hne
        · rw [List.getElem?_set, if_neg (fun q => e q.symm)] at h
          exact ⟨h, fun q => e (by omega)⟩
      · rename_i hc
        refine ⟨h, fun q => hc ?_⟩
        have : j = k := by omega
        subst this
        rw [hw] at h
        cases h
        exact q.2
    · rename_i hn
      refine ⟨h, fun q => ?_⟩
      have : j = k := by omega
      subst this
      exact hn v h
theorem am_st1_lv {g : am_P} {ls' : Array Slot} {nL i : Nat} {lv : am_L} {w : Value} (hlen : lv.length = nL) (h : lv_has ls' nL ((i, am_tv g w) :: (am_pr g lv).filter (fun q => !(q.1 == i) && !(q.1 + 1 == i && q.2.category == 2)))) : am_lv g ls' nL (am_st1 lv i (some w)) := by
  refine ⟨h.1, h.2.1, by unfold am_st1; rw [List.length_set, am_kill_len, hlen], fun j v hj => ?_⟩
  unfold am_st1 at hj
  rw [List.getElem?_set] at hj
  split at hj
  · rename_i e
    subst e
    split at hj
    · cases hj
      exact h.2.2 (i, am_tv g w) List.mem_cons_self
    · cases hj
  · rename_i e
    obtain ⟨h1, h2⟩ := am_kill_at hj
    refine h.2.2 (j, am_tv g v) (List.mem_cons_of_mem _ (List.mem_filter.mpr ⟨am_pr_mem h1, ?_⟩))
    rw [am_tv_cat]
    simp only [Bool.and_eq_true, Bool.not_eq_true', beq_eq_false_iff_ne, ne_eq, Bool.and_eq_false_iff]
    refine ⟨fun q => e q.symm, ?_⟩
    by_cases q : j + 1 = i
    · exact Or.inr fun q2 => h2 ⟨q, q2⟩
    · exact Or.inl q
theorem am_st2_lv {g : am_P} {ls' : Array Slot} {nL i : Nat} {lv : am_L} {w : Value} (hlen : lv.length = nL) (h : lv_has ls' nL ((i, am_tv g w) :: (am_pr g lv).filter (fun q => !(q.1 == i) && (!(q.1 == i + 1) && !(q.1 + 1 == i && q.2.category == 2))))) : am_lv g ls' nL (am_st2 lv i (some w)) := by
  refine ⟨h.1, h.2.1, by unfold am_st2; rw [List.length_set, List.length_set, am_kill_len, hlen], fun j v hj => ?_⟩
  unfold am_st2 at hj
  rw [List.getElem?_set] at hj
  split at hj
  · split at hj
    · cases hj
    · cases hj
  · rename_i e0
    rw [List.getElem?_set] at hj
    split at hj
    · rename_i e
      subst e
      split at hj
      · cases hj
        exact h.2.2 (i, am_tv g w) List.mem_cons_self
      · cases hj
    · rename_i e
      obtain ⟨h1, h2⟩ := am_kill_at hj
      refine h.2.2 (j, am_tv g v) (List.mem_cons_of_mem _ (List.mem_filter.mpr ⟨am_pr_mem h1, ?_⟩))
      rw [am_tv_cat]
      simp only [Bool.and_eq_true, Bool.not_eq_true', beq_eq_false_iff_ne, ne_eq, Bool.and_eq_false_iff]
      refine ⟨fun q => e q.symm, fun q => e0 q.symm, ?_⟩
      by_cases q : j + 1 = i
      · exact Or.inr fun q2 => h2 ⟨q, q2⟩
      · exact Or.inl q
/-- the same locals, one forgotten -/
theorem am_lv.drop {g : am_P} {ls : Array Slot} {nL i : Nat} {lv : am_L} (h : am_lv g ls nL lv) : am_lv g ls nL (lv.set i none) := by
  refine ⟨h.1, h.2.1, by rw [List.length_set]; exact h.2.2.1, fun j v hj => h.2.2.2 j v ?_⟩
  rw [List.getElem?_set] at hj
  split at hj
  · split at hj <;> cases hj
  · exact hj
