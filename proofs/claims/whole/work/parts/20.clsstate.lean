/-! Typed heaps: how many cells and slots, each cell's tag and length; what ints, longs and references its places hold. -/
abbrev cS : Type := Nat × Nat × (Nat → Nat × Nat) × (Nat → Nat → Int32) × (Nat → Nat → Int64) × (Nat → Nat → Option Nat)
abbrev cI (C : cS) : Nat → Nat → Int32 := C.2.2.2.1
abbrev cJ (C : cS) : Nat → Nat → Int64 := C.2.2.2.2.1
abbrev cR (C : cS) : Nat → Nat → Option Nat := C.2.2.2.2.2
/-- what a place holds: 0 an int, 1 a long, 2 a reference -/
def cK : Nat → Nat → Nat
  | 0, i => [2, 2, 2, 2, 0, 0].getD i 0
  | 1, i => [2, 2, 2, 2, 2, 2, 0].getD i 0
  | 2, i => [0, 0, 2, 2].getD i 0
  | 3, i => [2, 0, 0, 1, 1].getD i 0
  | 4, i => [2, 2, 0, 2, 0, 0].getD i 0
  | 5, i => [0, 0, 0, 0, 2, 2, 2].getD i 0
  | 6, i => [2, 2, 2, 0, 0, 0, 0, 0].getD i 0
  | 7, i => [2, 0].getD i 0
  | 8, i => [2, 0].getD i 0
  | 9, i => [2, 2, 2, 2, 2, 2, 2, 2, 0, 0, 0, 0].getD i 0
  | 10, i => [0, 0, 0, 2, 2, 2, 2, 2, 2, 2, 2, 2, 2, 2, 2, 2, 2, 2, 0, 0, 0, 0, 0, 0, 2, 2, 2, 2, 2, 2, 2, 2, 2, 2, 2, 2, 2, 2, 0, 0, 0, 2, 2, 2, 2, 2, 0, 0, 0, 0, 0, 2, 2, 2, 2, 2, 2, 2, 2].getD i 0
  | 21, _ => 1
  | 24, _ => 2
  | 25, _ => 2
  | 26, _ => 2
  | 27, _ => 2
  | _, _ => 0
def cz (k : Nat) (x : Int32) (y : Int64) (r : Option Nat) : Value := if k = 0 then .int x else if k = 1 then .long y else va_rf r
def cv (C : cS) (a i : Nat) : Value := cz (cK (C.2.2.1 a).1 i) (cI C a i) (cJ C a i) (cR C a i)
def cH (C : cS) : am_H := (C.1, C.2.1, fun a => ((C.2.2.1 a).1, (C.2.2.1 a).2, fun i => cv C a i))
def csi (C : cS) (a i : Nat) (v : Int32) : cS := (C.1, C.2.1, C.2.2.1, fun a' i' => if i' = i then (if a' = a then v else C.2.2.2.1 a' i) else C.2.2.2.1 a' i', C.2.2.2.2)
def csj (C : cS) (a i : Nat) (v : Int64) : cS := (C.1, C.2.1, C.2.2.1, C.2.2.2.1, fun a' i' => if i' = i then (if a' = a then v else C.2.2.2.2.1 a' i) else C.2.2.2.2.1 a' i', C.2.2.2.2.2)
def csr (C : cS) (a i : Nat) (v : Option Nat) : cS := (C.1, C.2.1, C.2.2.1, C.2.2.2.1, C.2.2.2.2.1, fun a' i' => if i' = i then (if a' = a then v else C.2.2.2.2.2 a' i) else C.2.2.2.2.2 a' i')
/-- a cell of zeros more -/
def cnw (C : cS) (t n : Nat) : cS := (C.1 + 1, C.2.1 + n, fun a => if a = C.1 then (t, n) else C.2.2.1 a, fun a i => if a = C.1 then 0 else C.2.2.2.1 a i, fun a i => if a = C.1 then 0 else C.2.2.2.2.1 a i, fun a i => if a = C.1 then none else C.2.2.2.2.2 a i)
/-- a is a cell of that tag and length (not the script) -/
def cT (C : cS) (a t n : Nat) : Prop := a ≠ 0 ∧ a < C.1 ∧ C.2.2.1 a = (t, n)
theorem cT.c {C : cS} {a t n : Nat} (h : cT C a t n) : (cH C).2.2 a = (t, n, fun i => cv C a i) := by
  show ((C.2.2.1 a).1, (C.2.2.1 a).2, fun i => cv C a i) = _
  rw [h.2.2]
theorem cv_of {C : cS} {a t n : Nat} (h : cT C a t n) (i : Nat) : cv C a i = cz (cK t i) (cI C a i) (cJ C a i) (cR C a i) := by
  unfold cv
  rw [h.2.2]
theorem am_H_ext {x y : am_H} (h1 : x.1 = y.1) (h2 : x.2.1 = y.2.1) (h3 : ∀ a, x.2.2 a = y.2.2 a) : x = y := Prod.ext h1 (Prod.ext h2 (funext h3))
theorem cH_wi {C : cS} {a t n i : Nat} {v : Int32} (h : cT C a t n) (hk : cK t i = 0) : am_wr (cH C) a i (.int v) = cH (csi C a i v) := by
  refine am_H_ext rfl rfl fun b => ?_
  show (if b = a then _ else (cH C).2.2 b) = ((C.2.2.1 b).1, (C.2.2.1 b).2, fun j => cv (csi C a i v) b j)
  by_cases e : b = a
  · subst e
    rw [if_pos rfl]
    refine Prod.ext rfl (Prod.ext rfl (funext fun j => ?_))
    show (if j = i then Value.int v else cv C b j) = cv (csi C b i v) b j
    by_cases ej : j = i
    · subst ej
      rw [if_pos rfl, cv_of (C := csi C b j v) h, hk]
      simp [cz, csi, cI]
    · rw [if_neg ej]
      simp [cv, csi, cI, ej]
  · rw [if_neg e]
    refine Prod.ext rfl (Prod.ext rfl (funext fun j => ?_))
    show cv C b j = cv (csi C a i v) b j
    simp only [cv, csi, cI]
    by_cases ej : j = i <;> simp [ej, e]
theorem cH_wj {C : cS} {a t n i : Nat} {v : Int64} (h : cT C a t n) (hk : cK t i = 1) : am_wr (cH C) a i (.long v) = cH (csj C a i v) := by
  refine am_H_ext rfl rfl fun b => ?_
  show (if b = a then _ else (cH C).2.2 b) = ((C.2.2.1 b).1, (C.2.2.1 b).2, fun j => cv (csj C a i v) b j)
  by_cases e : b = a
  · subst e
    rw [if_pos rfl]
    refine Prod.ext rfl (Prod.ext rfl (funext fun j => ?_))
    show (if j = i then Value.long v else cv C b j) = cv (csj C b i v) b j
    by_cases ej : j = i
    · subst ej
      rw [if_pos rfl, cv_of (C := csj C b j v) h, hk]
      simp [cz, csj, cJ]
    · rw [if_neg ej]
      simp [cv, csj, cJ, ej]
  · rw [if_neg e]
    refine Prod.ext rfl (Prod.ext rfl (funext fun j => ?_))
    show cv C b j = cv (csj C a i v) b j
    simp only [cv, csj, cJ]
    by_cases ej : j = i <;> simp [ej, e]
theorem cH_wr {C : cS} {a t n i : Nat} {v : Option Nat} (h : cT C a t n) (hk : cK t i = 2) : am_wr (cH C) a i (va_rf v) = cH (csr C a i v) := by
  refine am_H_ext rfl rfl fun b => ?_
  show (if b = a then _ else (cH C).2.2 b) = ((C.2.2.1 b).1, (C.2.2.1 b).2, fun j => cv (csr C a i v) b j)
  by_cases e : b = a
  · subst e
    rw [if_pos rfl]
    refine Prod.ext rfl (Prod.ext rfl (funext fun j => ?_))
    show (if j = i then va_rf v else cv C b j) = cv (csr C b i v) b j
    by_cases ej : j = i
    · subst ej
      rw [if_pos rfl, cv_of (C := csr C b j v) h, hk]
      simp [cz, csr, cR]
    · rw [if_neg ej]
      simp [cv, csr, cR, ej]
  · rw [if_neg e]
    refine Prod.ext rfl (Prod.ext rfl (funext fun j => ?_))
    show cv C b j = cv (csr C a i v) b j
    simp only [cv, csr, cR]
    by_cases ej : j = i <;> simp [ej, e]
/-- what a new cell of a tag holds -/
def cz0 (t i : Nat) : Value := cz (cK t i) 0 0 none
theorem cH_nw {C : cS} {t n : Nat} {f : Nat → Value} (hf : ∀ i, f i = cz0 t i) : am_nw (cH C) t n f = cH (cnw C t n) := by
  refine am_H_ext rfl rfl fun b => ?_
  show (if b = C.1 then (t, n, f) else ((C.2.2.1 b).1, (C.2.2.1 b).2, fun i => cv C b i)) = (((if b = C.1 then (t, n) else C.2.2.1 b)).1, ((if b = C.1 then (t, n) else C.2.2.1 b)).2, fun i => cv (cnw C t n) b i)
  by_cases e : b = C.1
  · simp only [if_pos e]
    refine Prod.ext rfl (Prod.ext rfl (funext fun i => ?_))
    show f i = cv (cnw C t n) b i
    rw [hf]
    simp [cv, cnw, e, cz0, cI, cJ, cR]
  · simp only [if_neg e]
    refine Prod.ext rfl (Prod.ext rfl (funext fun i => ?_))
    show cv C b i = cv (cnw C t n) b i
    simp [cv, cnw, e, cI, cJ, cR]
/-- the machine's places, the launch -/
abbrev cX : Type := am_P × Launch
abbrev cG (c : cX) (e : am_E) (d : Nat) (Q : am_R → am_H → Prop) (pc : Nat) (lv : am_L) (st : List Value) (C : cS) : Prop := am_G c.1 c.2 e d Q pc lv st (cH C)
def cQ (K : Option Value → cS → Prop) : am_R → am_H → Prop := fun r h' => ∃ v, r = .inl v ∧ ∃ C', h' = cH C' ∧ K v C'
def cM (c : cX) (d : Nat) (e : am_E) (as : List Value) (C : cS) (K : Option Value → cS → Prop) : Prop := am_Mt c.2 c.1 d e as (cH C) (fun v h' => ∃ C', h' = cH C' ∧ K v C')
theorem cM.mono {c : cX} {d : Nat} {e : am_E} {as : List Value} {C : cS} {K K' : Option Value → cS → Prop} (k : cM c d e as C K) (f : ∀ v C', K v C' → K' v C') : cM c d e as C K' := am_Mt.mono k fun _ _ ⟨C', h1, h2⟩ => ⟨C', h1, f _ _ h2⟩
theorem cM.of {c : cX} {d : Nat} {e : am_E} {as : List Value} {C : cS} {K : Option Value → cS → Prop} (hy : plainName e.1.cls = true) (hlen : (am_sl as).length ≤ e.2.2.1) (k : cG c e d (cQ K) 0 (am_en e.2.2.1 as) [] C) : cM c d e as C K := am_Mt.of hy hlen k
theorem va_rf_cat (r : Option Nat) : (va_rf r).category = 1 := by cases r <;> rfl
theorem am_ci (x : Int32) : (Value.int x).category = 1 := rfl
theorem am_cl (x : Int64) : (Value.long x).category = 2 := rfl
theorem am_cr (a : Nat) : (Value.ref a).category = 1 := rfl
theorem am_cn : Value.null.category = 1 := rfl
theorem am_sl_i (x : Int32) (vs : List Value) : am_sl (.int x :: vs) = some (.int x) :: am_sl vs := rfl
theorem am_sl_r (a : Nat) (vs : List Value) : am_sl (.ref a :: vs) = some (.ref a) :: am_sl vs := rfl
theorem am_sl_l (x : Int64) (vs : List Value) : am_sl (.long x :: vs) = some (.long x) :: none :: am_sl vs := rfl
theorem am_sl_o (r : Option Nat) (vs : List Value) : am_sl (va_rf r :: vs) = some (va_rf r) :: am_sl vs := by cases r <;> rfl
theorem am_sl_n : am_sl [] = [] := rfl
theorem cM.of2 {c : cX} {d : Nat} {e : am_E} {as : List Value} {C : cS} {K : Option Value → cS → Prop} {lv : am_L} (hy : plainName e.1.cls = true) (hlen : (am_sl as).length ≤ e.2.2.1) (hen : am_en e.2.2.1 as = lv) (k : cG c e d (cQ K) 0 lv [] C) : cM c d e as C K := by subst hen; exact am_Mt.of hy hlen k
theorem va_rf_fit (r : Option Nat) {ty : FieldType} (ht : (∃ n, ty = .object n) ∨ ∃ t, ty = .array t) : ∀ g : am_P, narrow ty (am_tv g (va_rf r)) = am_tv g (va_rf r) ∧ fits ty (am_tv g (va_rf r)) = true := by
  intro g
  cases r with
  | none => rcases ht with ⟨n, rfl⟩ | ⟨t, rfl⟩ <;> exact ⟨rfl, rfl⟩
  | some a => rcases ht with ⟨n, rfl⟩ | ⟨t, rfl⟩ <;> exact ⟨rfl, rfl⟩
section CR
variable {c : cX} {e : am_E} {d : Nat} {Q : am_R → am_H → Prop} {pc : Nat} {lv : am_L} {st : List Value} {C : cS}
theorem cr_ifnull {off : Int} {r : Option Nat} {tgt : Nat} (hd : decode e.2.1 pc = .ok (.ifnull off, 3)) (ht : (pc : Int) + off = (tgt : Int)) (k1 : r = none → cG c e d Q tgt lv st C) (k2 : ∀ a : Nat, r = some a → cG c e d Q (pc + 3) lv st C) : cG c e d Q pc lv (va_rf r :: st) C := by
  cases r with
  | none => exact ag_ifnull_n hd ht (k1 rfl)
  | some a => exact ag_ifnull_r hd (k2 a rfl)
theorem cr_ifnonnull {off : Int} {r : Option Nat} {tgt : Nat} (hd : decode e.2.1 pc = .ok (.ifnonnull off, 3)) (ht : (pc : Int) + off = (tgt : Int)) (k1 : ∀ a : Nat, r = some a → cG c e d Q tgt lv st C) (k2 : r = none → cG c e d Q (pc + 3) lv st C) : cG c e d Q pc lv (va_rf r :: st) C := by
  cases r with
  | none => exact ag_ifnonnull_n hd (k2 rfl)
  | some a => exact ag_ifnonnull_r hd ht (k1 a rfl)
/-- a reference that is known not to be null -/
theorem cr_some {r : Option Nat} {a : Nat} (h : r = some a) (k : cG c e d Q pc lv (.ref a :: st) C) : cG c e d Q pc lv (va_rf r :: st) C := by subst h; exact k
theorem cr_get {i ci k n a : Nat} {v : Value} (hd : decode e.2.1 pc = .ok (.getfield i, 3)) (hf : am_fw e.1.cls i ci k) (hT : cT C a ci n) (hv : cz (cK ci k) (cI C a k) (cJ C a k) (cR C a k) = v) (kk : cG c e d Q (pc + 3) lv (v :: st) C) : cG c e d Q pc lv (.ref a :: st) C :=
  ag_get hd hf hT.2.1 hT.c ((cv_of hT k).trans hv) kk
theorem cr_pi {i ci k n a : Nat} {v : Int32} {ty : FieldType} {C2 : cS} (hd : decode e.2.1 pc = .ok (.putfield i, 3)) (hf : am_pw e.1.cls i ci k false ty) (hk : cK ci k = 0) (hT : cT C a ci n) (hv : ∀ g : am_P, narrow ty (am_tv g (.int v)) = am_tv g (.int v) ∧ fits ty (am_tv g (.int v)) = true) (hs : csi C a k v = C2) (kk : cG c e d Q (pc + 3) lv st C2) : cG c e d Q pc lv (.int v :: .ref a :: st) C := by
  subst hs
  refine ag_put hd hf hT.2.1 hT.1 hT.c hv ?_
  rw [cH_wi hT hk]
  exact kk
theorem cr_piF {i ci k n a : Nat} {v : Int32} {ty : FieldType} {C2 : cS} (hd : decode e.2.1 pc = .ok (.putfield i, 3)) (hin : e.1.name = "<init>") (hf : am_pw e.1.cls i ci k true ty) (hk : cK ci k = 0) (hT : cT C a ci n) (hv : ∀ g : am_P, narrow ty (am_tv g (.int v)) = am_tv g (.int v) ∧ fits ty (am_tv g (.int v)) = true) (hs : csi C a k v = C2) (kk : cG c e d Q (pc + 3) lv st C2) : cG c e d Q pc lv (.int v :: .ref a :: st) C := by
  subst hs
  refine ag_putF hd hin hf hT.2.1 hT.1 hT.c hv ?_
  rw [cH_wi hT hk]
  exact kk
theorem cr_pjF {i ci k n a : Nat} {v : Int64} {C2 : cS} (hd : decode e.2.1 pc = .ok (.putfield i, 3)) (hin : e.1.name = "<init>") (hf : am_pw e.1.cls i ci k true .long) (hk : cK ci k = 1) (hT : cT C a ci n) (hs : csj C a k v = C2) (kk : cG c e d Q (pc + 3) lv st C2) : cG c e d Q pc lv (.long v :: .ref a :: st) C := by
  subst hs
  refine ag_putF hd hin hf hT.2.1 hT.1 hT.c (fun _ => ⟨rfl, rfl⟩) ?_
  rw [cH_wj hT hk]
  exact kk
theorem cr_pr {i ci k n a : Nat} {r : Option Nat} {ty : FieldType} {C2 : cS} (hd : decode e.2.1 pc = .ok (.putfield i, 3)) (hf : am_pw e.1.cls i ci k false ty) (hk : cK ci k = 2) (ht : (∃ n, ty = .object n) ∨ ∃ t, ty = .array t) (hT : cT C a ci n) (hs : csr C a k r = C2) (kk : cG c e d Q (pc + 3) lv st C2) : cG c e d Q pc lv (va_rf r :: .ref a :: st) C := by
  subst hs
  refine ag_put hd hf hT.2.1 hT.1 hT.c (va_rf_fit r ht) ?_
  rw [cH_wr hT hk]
  exact kk
theorem cr_prF {i ci k n a : Nat} {r : Option Nat} {ty : FieldType} {C2 : cS} (hd : decode e.2.1 pc = .ok (.putfield i, 3)) (hin : e.1.name = "<init>") (hf : am_pw e.1.cls i ci k true ty) (hk : cK ci k = 2) (ht : (∃ n, ty = .object n) ∨ ∃ t, ty = .array t) (hT : cT C a ci n) (hs : csr C a k r = C2) (kk : cG c e d Q (pc + 3) lv st C2) : cG c e d Q pc lv (va_rf r :: .ref a :: st) C := by
  subst hs
  refine ag_putF hd hin hf hT.2.1 hT.1 hT.c (va_rf_fit r ht) ?_
  rw [cH_wr hT hk]
  exact kk
theorem cr_il {x : Int32} {a j n : Nat} {v : Int32} (hd : decode e.2.1 pc = .ok (.iaload, 1)) (hT : cT C a 20 n) (hi : am_ix x j n) (hv : cI C a j = v) (kk : cG c e d Q (pc + 1) lv (.int v :: st) C) : cG c e d Q pc lv (.int x :: .ref a :: st) C := ag_iald hd hT.2.1 hT.c hi ((cv_of hT j).trans (congrArg Value.int hv)) kk
theorem cr_cl {x : Int32} {a j n : Nat} {v : Int32} (hd : decode e.2.1 pc = .ok (.caload, 1)) (hT : cT C a 23 n) (hi : am_ix x j n) (hv : cI C a j = v) (kk : cG c e d Q (pc + 1) lv (.int v :: st) C) : cG c e d Q pc lv (.int x :: .ref a :: st) C := ag_cald hd hT.2.1 hT.c hi ((cv_of hT j).trans (congrArg Value.int hv)) kk
theorem cr_ll {x : Int32} {a j n : Nat} {v : Int64} (hd : decode e.2.1 pc = .ok (.laload, 1)) (hT : cT C a 21 n) (hi : am_ix x j n) (hv : cJ C a j = v) (kk : cG c e d Q (pc + 1) lv (.long v :: st) C) : cG c e d Q pc lv (.int x :: .ref a :: st) C := ag_lald hd hT.2.1 hT.c hi ((cv_of hT j).trans (congrArg Value.long hv)) kk
theorem cr_al {x : Int32} {a j n t : Nat} {r : Option Nat} (hd : decode e.2.1 pc = .ok (.aaload, 1)) (hT : cT C a t n) (ht : t = 24 ∨ t = 25 ∨ t = 26 ∨ t = 27) (hi : am_ix x j n) (hv : cR C a j = r) (kk : cG c e d Q (pc + 1) lv (va_rf r :: st) C) : cG c e d Q pc lv (.int x :: .ref a :: st) C := by
  subst hv
  refine ag_aald hd hT.2.1 hT.c (by omega) hi ((cv_of hT j).trans ?_) kk
  rcases ht with rfl | rfl | rfl | rfl <;> rfl
theorem cr_len {a n t : Nat} (hd : decode e.2.1 pc = .ok (.arraylength, 1)) (hT : cT C a t n) (ht : 20 ≤ t ∧ t ≤ 27) (kk : cG c e d Q (pc + 1) lv (.int (nI n) :: st) C) : cG c e d Q pc lv (.ref a :: st) C := ag_alen hd hT.2.1 hT.c ht kk
theorem cr_is {x v : Int32} {a j n : Nat} {C2 : cS} (hd : decode e.2.1 pc = .ok (.iastore, 1)) (hT : cT C a 20 n) (hi : am_ix x j n) (hs : csi C a j v = C2) (kk : cG c e d Q (pc + 1) lv st C2) : cG c e d Q pc lv (.int v :: .int x :: .ref a :: st) C := by
  subst hs
  refine ag_iast hd hT.2.1 hT.1 hT.c hi ?_
  rw [cH_wi hT rfl]
  exact kk
theorem cr_cs {x v : Int32} {a j n : Nat} {C2 : cS} (hd : decode e.2.1 pc = .ok (.castore, 1)) (hT : cT C a 23 n) (hi : am_ix x j n) (hy : narrow .char (.int v) = .int v) (hs : csi C a j v = C2) (kk : cG c e d Q (pc + 1) lv st C2) : cG c e d Q pc lv (.int v :: .int x :: .ref a :: st) C := by
  subst hs
  refine ag_cast hd hT.2.1 hT.1 hT.c hi hy ?_
  rw [cH_wi hT rfl]
  exact kk
theorem cr_ls {x : Int32} {v : Int64} {a j n : Nat} {C2 : cS} (hd : decode e.2.1 pc = .ok (.lastore, 1)) (hT : cT C a 21 n) (hi : am_ix x j n) (hs : csj C a j v = C2) (kk : cG c e d Q (pc + 1) lv st C2) : cG c e d Q pc lv (.long v :: .int x :: .ref a :: st) C := by
  subst hs
  refine ag_last hd hT.2.1 hT.1 hT.c hi ?_
  rw [cH_wj hT rfl]
  exact kk
/-- a reference goes into an array of its class: 25 Finding (2), 26 Function (3), 27 View (8) -/
theorem cr_as {x : Int32} {a j n t ci nb : Nat} {r : Option Nat} {C2 : cS} (hd : decode e.2.1 pc = .ok (.aastore, 1)) (hT : cT C a t n) (ht : (t, ci) = (25, 2) ∨ (t, ci) = (26, 3) ∨ (t, ci) = (27, 8)) (hi : am_ix x j n) (hr : ∀ b, r = some b → cT C b ci nb) (hs : csr C a j r = C2) (kk : cG c e d Q (pc + 1) lv st C2) : cG c e d Q pc lv (va_rf r :: .int x :: .ref a :: st) C := by
  subst hs
  have hk : cK t j = 2 := by rcases ht with h | h | h <;> cases h <;> rfl
  cases r with
  | none =>
    have hn : ∃ N : String, am_aty t = some (.object N) := by rcases ht with h | h | h <;> cases h <;> exact ⟨_, rfl⟩
    obtain ⟨N, hn⟩ := hn
    refine ag_aastN hd hT.2.1 hT.1 hT.c hn hi ?_
    have h9 := cH_wr (v := none) hT hk
    rw [show am_wr (cH C) a j .null = cH (csr C a j none) from h9]
    exact kk
  | some b =>
    have hb := hr b rfl
    refine ag_aast hd hT.2.1 hT.1 hT.c hb.2.1 hb.c ?_ hi ?_
    · rcases ht with h | h | h <;> cases h <;> exact ⟨_, by decide, rfl, rfl⟩
    · have h9 := cH_wr (v := some b) hT hk
      rw [show am_wr (cH C) a j (.ref b) = cH (csr C a j (some b)) from h9]
      exact kk
theorem cr_new {i ci : Nat} {r : vw_C} {C2 : cS} (hd : decode e.2.1 pc = .ok (.new i, 3)) (hw : am_nwd e.1.cls i ci r) (hf : ∀ k, k < r.2.2 → ∃ t : FieldType, parseFieldDescriptor (r.2.1 k).2.2.1 = some t ∧ cz0 ci k = defaultValue t) (hs : cnw C ci r.2.2 = C2) (kk : cG c e d Q (pc + 3) lv (.ref C.1 :: st) C2) : cG c e d Q pc lv st C := by
  subst hs
  refine ag_new (f := cz0 ci) hd hw hf ?_
  rw [cH_nw fun _ => rfl]
  exact kk
theorem cr_newa {ty : ArrayType} {x : Int32} {n t : Nat} {C2 : cS} (hd : decode e.2.1 pc = .ok (.newarray ty, 2)) (ht : am_aty t = some (newarray.typeOf ty)) (hw : Cond.arrayClass (newarray.typeOf ty) ∈ am_tbl) (hi : ¬ x < 0) (hn : x.toNatClampNeg = n) (hs : n ≤ 1000) (hz : ∀ i, cz0 t i = defaultValue (newarray.typeOf ty)) (h2 : cnw C t n = C2) (kk : cG c e d Q (pc + 2) lv (.ref C.1 :: st) C2) : cG c e d Q pc lv (.int x :: st) C := by
  subst h2
  refine ag_newa (z := defaultValue (newarray.typeOf ty)) hd ht hw hi hn hs rfl ?_
  rw [cH_nw fun i => (hz i).symm]
  exact kk
theorem cr_anew {x : Int32} {ix n t : Nat} {N : String} {C2 : cS} (hd : decode e.2.1 pc = .ok (.anewarray ix, 3)) (ht : am_aty t = some (.object N)) (hw : Cond.classLink e.1.cls ix N ∈ am_tbl) (hN : N = "TypedLisp$Finding" ∨ N = "TypedLisp$Function" ∨ N = "TypedLisp$View") (hi : ¬ x < 0) (hn : x.toNatClampNeg = n) (hs : n ≤ 1000) (hz : ∀ i, cz0 t i = .null) (h2 : cnw C t n = C2) (kk : cG c e d Q (pc + 3) lv (.ref C.1 :: st) C2) : cG c e d Q pc lv (.int x :: st) C := by
  subst h2
  refine ag_anew hd ht hw hN hi hn hs ?_
  rw [cH_nw fun i => (hz i).symm]
  exact kk
theorem cr_mono {e2 : am_E} {as rest : List Value} {d : Nat} (k : cM c d e2 as C (fun v C' => cG c e (d + 1) Q (pc + 3) lv (v.toList ++ rest) C')) : am_Mt c.2 c.1 d e2 as (cH C) (fun v h' => am_G c.1 c.2 e (d + 1) Q (pc + 3) lv (v.toList ++ rest) h') := am_Mt.mono k fun v h' ⟨C', h1, h2⟩ => by subst h1; exact h2
theorem cr_callV {i a ci n nn : Nat} {e2 : am_E} {as rest : List Value} (hd : decode e.2.1 pc = .ok (.invokevirtual i, 3)) (hm : am_me e2 n) (hi : am_mi e2 ci) (hl : am_lk e.1.cls i e2) (hT : cT C a ci nn) (hn : as.length = n) (hst : as.reverse ++ .ref a :: rest = st) (hcat : (rest.map fun v => v.category).sum ≤ 8)
    (k : cM c d e2 (.ref a :: as) C (fun v C' => cG c e (d + 1) Q (pc + 3) lv (v.toList ++ rest) C')) : cG c e (d + 1) Q pc lv st C :=
  ag_callV hd hm hi hl hT.2.1 (by rw [hT.c]) hn hst hcat (cr_mono k)
theorem cr_callVN {i a ci n nn : Nat} {e2 : am_E} {as rest : List Value} (hd : decode e.2.1 pc = .ok (.invokevirtual i, 3)) (hm : am_me e2 n) (hi : am_mi e2 ci) (hl : am_ln e.1.cls i e2) (hT : cT C a ci nn) (hn : as.length = n) (hst : as.reverse ++ .ref a :: rest = st) (hcat : (rest.map fun v => v.category).sum ≤ 8)
    (k : cM c d e2 (.ref a :: as) C (fun v C' => cG c e (d + 1) Q (pc + 3) lv (v.toList ++ rest) C')) : cG c e (d + 1) Q pc lv st C :=
  ag_callVN hd hm hi hl hT.2.1 (by rw [hT.c]) hn hst hcat (cr_mono k)
theorem cr_callS {i n : Nat} {e2 : am_E} {as rest : List Value} (hd : decode e.2.1 pc = .ok (.invokestatic i, 3)) (hm : am_me e2 n) (hs : Cond.static e2.1 ∈ am_tbl) (hl : am_lk e.1.cls i e2) (hn : as.length = n) (hst : as.reverse ++ rest = st) (hcat : (rest.map fun v => v.category).sum ≤ 8)
    (k : cM c d e2 as C (fun v C' => cG c e (d + 1) Q (pc + 3) lv (v.toList ++ rest) C')) : cG c e (d + 1) Q pc lv st C := ag_callS hd hm hs hl hn hst hcat (cr_mono k)
theorem cr_callSN {i n : Nat} {e2 : am_E} {as rest : List Value} (hd : decode e.2.1 pc = .ok (.invokestatic i, 3)) (hm : am_me e2 n) (hs : Cond.static e2.1 ∈ am_tbl) (hl : am_ln e.1.cls i e2) (hn : as.length = n) (hst : as.reverse ++ rest = st) (hcat : (rest.map fun v => v.category).sum ≤ 8)
    (k : cM c d e2 as C (fun v C' => cG c e (d + 1) Q (pc + 3) lv (v.toList ++ rest) C')) : cG c e (d + 1) Q pc lv st C := ag_callSN hd hm hs hl hn hst hcat (cr_mono k)
theorem cr_callI {i a n : Nat} {e2 : am_E} {as rest : List Value} (hd : decode e.2.1 pc = .ok (.invokespecial i, 3)) (hm : am_me e2 n) (hi : e2.1.name = "<init>" ∧ Cond.instanceMethod e2.1 ∈ am_tbl ∧ e2.2.2.2 = none) (hl : am_lk e.1.cls i e2) (hn : as.length = n) (hst : as.reverse ++ .ref a :: rest = st) (hcat : (rest.map fun v => v.category).sum ≤ 8)
    (k : cM c d e2 (.ref a :: as) C (fun v C' => cG c e (d + 1) Q (pc + 3) lv (v.toList ++ rest) C')) : cG c e (d + 1) Q pc lv st C := ag_callI (ci := 0) hd hm hi hl hn hst hcat (cr_mono k)
theorem cr_callIN {i a n : Nat} {e2 : am_E} {as rest : List Value} (hd : decode e.2.1 pc = .ok (.invokespecial i, 3)) (hm : am_me e2 n) (hi : e2.1.name = "<init>" ∧ Cond.instanceMethod e2.1 ∈ am_tbl ∧ e2.2.2.2 = none) (hl : am_ln e.1.cls i e2) (hn : as.length = n) (hst : as.reverse ++ .ref a :: rest = st) (hcat : (rest.map fun v => v.category).sum ≤ 8)
    (k : cM c d e2 (.ref a :: as) C (fun v C' => cG c e (d + 1) Q (pc + 3) lv (v.toList ++ rest) C')) : cG c e (d + 1) Q pc lv st C := ag_callIN (ci := 0) hd hm hi hl hn hst hcat (cr_mono k)
theorem cr_stk {st' : List Value} (hs : st = st') (k : cG c e d Q pc lv st' C) : cG c e d Q pc lv st C := by subst hs; exact k
theorem cr_aret {r : Option Nat} (hd : decode e.2.1 pc = .ok (.areturn, 1)) (ht : ∃ ty : FieldType, e.2.2.2 = some ty ∧ ((∃ n, ty = .object n) ∨ ∃ t, ty = .array t)) (hq : Q (.inl (some (va_rf r))) (cH C)) : cG c e d Q pc lv [va_rf r] C := by
  cases r with
  | none => exact ag_ret (v := some .null) hd ⟨Or.inl rfl, ht⟩ hq rfl
  | some a => exact ag_ret (v := some (.ref a)) hd ⟨Or.inr ⟨a, rfl⟩, ht⟩ hq rfl
end CR
/-- shapes stay; cells may come -/
def cle (C C' : cS) : Prop := C.1 ≤ C'.1 ∧ ∀ a, a < C.1 → C'.2.2.1 a = C.2.2.1 a
theorem cle.refl (C : cS) : cle C C := ⟨Nat.le_refl _, fun _ _ => rfl⟩
theorem cle.trans {A B C : cS} (h : cle A B) (k : cle B C) : cle A C := ⟨Nat.le_trans h.1 k.1, fun a ha => (k.2 a (Nat.lt_of_lt_of_le ha h.1)).trans (h.2 a ha)⟩
theorem cT.le {C C' : cS} {a t n : Nat} (h : cT C a t n) (k : cle C C') : cT C' a t n := ⟨h.1, Nat.lt_of_lt_of_le h.2.1 k.1, (k.2 a h.2.1).trans h.2.2⟩
theorem cle_nw (C : cS) (t n : Nat) : cle C (cnw C t n) := ⟨Nat.le_succ _, fun a ha => by show (if a = C.1 then _ else _) = _; rw [if_neg (Nat.ne_of_lt ha)]⟩
theorem cT_nw {C : cS} {t n b t' n' : Nat} (h : cT C b t' n') : cT (cnw C t n) C.1 t n := ⟨by have := h.2.1; omega, Nat.lt_succ_self _, by show (if C.1 = C.1 then _ else _) = _; rw [if_pos rfl]⟩
/-- what a method that may throw ends with -/
def cQx (K : Option Value → cS → Prop) (X : String → cS → Prop) : am_R → am_H → Prop := fun r h' => (∃ v, r = .inl v ∧ ∃ C', h' = cH C' ∧ K v C') ∨ ∃ E C', r = .inr E ∧ h' = am_nw (cH C') 99 6 (fun _ => .null) ∧ X E C'
theorem ag_throw {g : am_P} {l : Launch} {e : am_E} {d : Nat} {Q : am_R → am_H → Prop} {pc : Nat} {lv : am_L} {st : List Value} {h : am_H} {ik ic : Nat} {E : String} (d0 : decode e.2.1 pc = .ok (.new ik, 3)) (d3 : decode e.2.1 (pc + 3) = .ok (.dup, 1)) (d4 : decode e.2.1 (pc + 4) = .ok (.invokespecial ic, 3)) (d7 : decode e.2.1 (pc + 7) = .ok (.athrow, 1)) (hx : am_xw (some e.1.cls) E ik ic) (hcat : (st.map fun v => v.category).sum ≤ 8) (hq : Q (.inr E) (am_nw h 99 6 (fun _ => .null))) : am_G g l e d Q pc lv st h := by
  refine ⟨.inr E, _, hq, Nat.le_succ _, Nat.le_add_right _ _, ?_⟩
  rintro ⟨p, l', e', R, s, m, args, below, meth, c⟩ ⟨hx', hb, -⟩ H ls locs cells slots QQ hS hl hc1 hc2 hE
  refine hE h H ls locs pc ik ic cells slots (st.map (am_tv g)) rfl hS hl.1 ?_ ?_ ?_ ?_ hx (by rw [am_cats]; exact hcat) (by show cells + (h.1 + 1 - h.1) = _; omega) (by show slots + (h.2.1 + 6 - h.2.1) = _; omega)
  · show decode c.code pc = _
    rw [hb]; exact d0
  · show decode c.code (pc + 3) = _
    rw [hb]; exact d3
  · show decode c.code (pc + 4) = _
    rw [hb]; exact d4
  · show decode c.code (pc + 7) = _
    rw [hb]; exact d7
