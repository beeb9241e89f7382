/-! What both checkers find of a whole text. -/
theorem av_all {p : Nat} (hp : p < 119) : av vAll p = 31 := by
  have e : ∀ q, q < 7 → kd 34359738367 q = 31 := by decide +kernel
  unfold av vAll
  simp only
  rw [if_pos (by omega)]
  exact e _ (Nat.mod_lt _ (by decide))
theorem vok_all : vok vAll := Or.inl ⟨rfl, fun p hp => by rw [av_all hp]; decide⟩
def τ31 : tiT := fun _ => (0, 31, 31)
theorem top_view {t : Nat} (ht : t < 32) (h0 : t ≠ 0) : vok (vRes vAll 0 t) ∧ (vRes vAll 0 t).1 = 0 ∧ ∀ q, q < 119 → av (vRes vAll 0 t) q = if q = 0 then t else 31 := by
  obtain ⟨a1, a2⟩ := av_res vok_all (p := 0) (by decide) ht
  have e : av vAll 0 &&& t = t := by rw [av_all (by decide), Nat.and_comm]; exact k_31 t ht
  rw [e] at a2
  rcases a2 with ⟨z, _⟩ | ⟨_, z1, z2⟩
  · exact absurd z h0
  · refine ⟨a1, z1, fun q hq => ?_⟩
    rw [z2 q hq]
    split
    · rfl
    · exact av_all hq
def vwE (V : vT) (g : nV) : Prop := (V.1 ≠ 0 ↔ nImp g = true) ∧ (V.1 = 0 → ∀ i, i < 2 → ∀ q, q < 7 → g (7 * i + q) = av V (7 * i + q))
theorem smE_is {x s : Nat} (h : smE x = some s) : x = s ∧ s < 2 := by
  unfold smE at h
  split at h
  · cases h; exact ⟨by assumption, by decide⟩
  · split at h
    · cases h; exact ⟨by assumption, by decide⟩
    · cases h
theorem CX_E : CX smE smE 2 τ31 (fun i => i * 7) (fun _ => none) (fun x => 7 * x) (fun _ => none) := by
  have svo : svO smE := ⟨fun x s h => by have := smE_is h; omega, fun x y s h1 h2 => by have := smE_is h1; have := smE_is h2; omega⟩
  refine ⟨svo, by decide, fun x s h => ⟨(smE_is h).2, h⟩, ⟨0, rfl⟩, fun p hp => ?_, fun x s h => ?_⟩
  · have h14 := hp.1
    by_cases z : p / 7 = 0
    · exact absurd (show smE 0 = some (p / 7) by rw [z]; rfl) (hp.2 0)
    · have z1 : p / 7 = 1 := by omega
      exact absurd (show smE 1 = some (p / 7) by rw [z1]; rfl) (hp.2 1)
  · have q := smE_is h
    exact ⟨by omega, q.2, ⟨x, s, 0, h, by decide, by show s * 7 = _; omega, rfl⟩, Or.inl ⟨rfl, rfl⟩⟩
theorem eqE {fx : fnT} {T : Nat → nd} {n sh : Nat} (hf : fnO fx) (w : wt T 7 n 0 2 sh [0, 1]) (wN : wn T 7 n smE) :
    (∃ e, ck fx T 7 n (vRes vAll 0 31) (fun i => i * 7) (fun _ => none) = .inl e ∧ nk fx T 7 n (fun _ => 31) (fun x => 7 * x) (fun _ => none) = .inl e) ∨
    ∃ F F', ck fx T 7 n (vRes vAll 0 31) (fun i => i * 7) (fun _ => none) = .inr F ∧ nk fx T 7 n (fun _ => 31) (fun x => 7 * x) (fun _ => none) = .inr F' ∧ F.1 = F'.1 ∧ vwE F.2.2.1 F'.2.2.1 ∧ vwE F.2.2.2 F'.2.2.2 := by
  obtain ⟨t1, t2, t3⟩ := top_view (t := 31) (by decide) (by decide)
  have t31 : ∀ q, q < 119 → av (vRes vAll 0 31) q = 31 := fun q hq => by rw [t3 q hq]; split <;> rfl
  have kV : WP smE 2 2 τ31 (vRes vAll 0 31) (fun _ => 31) := by
    refine ⟨t1, Or.inr ⟨t2, fun x hx q hq => ?_⟩, fun _ p _ p2 => t31 p p2, fun p hp => ⟨fun _ => ?_, fun _ => ?_⟩⟩
    · unfold rlS
      cases e : smE x with
      | none => rfl
      | some s =>
        have := smE_is e
        exact (t31 _ (by omega)).symm
    · have := hp.1
      rw [t31 p (by omega)]
      exact (by decide : (31 : Nat) &&& 31 = 31)
    · have := hp.1
      rw [t31 p (by omega)]
      exact (by decide : (31 : Nat) &&& 31 = 31)
  rcases EQ hf 7 n 0 2 sh [0, 1] smE smE τ31 _ _ _ _ _ _ w wN CX_E (by decide) kV with ⟨e, e1, e2⟩ | ⟨F, F', e1, e2, f1, f2, f3, f4, f5, f6⟩
  · exact Or.inl ⟨e, e1, e2⟩
  · have vw : ∀ V g, WR smE 2 sh τ31 V g → vwE V g := by
      intro V g k
      refine ⟨nImp_no CX_E.1 k, fun z i hi q hq => ?_⟩
      rcases k.2.1 with r | r
      · rw [r.1] at z; exact absurd z (by decide)
      · rw [r.2 i (by omega) q hq]
        unfold rlS
        have e : smE i = some i := by
          unfold smE
          by_cases z0 : i = 0
          · rw [if_pos z0, z0]
          · rw [if_neg z0, if_pos (by omega)]; congr 1; omega
        rw [e]
    exact Or.inr ⟨F, F', e1, e2, f1, vw _ _ f5, vw _ _ f6⟩
theorem eqD {fx : fnT} {T : Nat → nd} {n sh x t : Nat} (hf : fnO fx) (hx : x < 8) (ht : t < 32) (h0 : t ≠ 0) (w : wt T 7 n 0 2 sh [0]) (wN : wn T 7 n (up sm0 x (some 0))) :
    (∃ e, ck fx T 7 n (vRes vAll 0 t) (fun i => i * 7) (fun _ => none) = .inl e ∧ nk fx T 7 n (fun q => if q = 7 * x then t else 31) (fun x => 7 * x) (fun _ => none) = .inl e) ∨
    ∃ F F', ck fx T 7 n (vRes vAll 0 t) (fun i => i * 7) (fun _ => none) = .inr F ∧ nk fx T 7 n (fun q => if q = 7 * x then t else 31) (fun x => 7 * x) (fun _ => none) = .inr F' ∧ F.1 = F'.1 ∧ (∀ q, q < 7 → F'.2.2.1 (7 * x + q) = kd (F.2.2.1.2 0) q) ∧ ∀ q, q < 7 → F'.2.2.2 (7 * x + q) = kd (F.2.2.2.2 0) q := by
  obtain ⟨t1, t2, t3⟩ := top_view ht h0
  have sis : ∀ y s, up sm0 x (some 0) y = some s → y = x ∧ s = 0 := by
    intro y s h
    by_cases z : y = x
    · subst z; rw [up_same] at h; cases h; exact ⟨rfl, rfl⟩
    · rw [up_ne _ _ z] at h; cases h
  have svo : svO (up sm0 x (some 0)) := ⟨fun y s h => by have := sis y s h; omega, fun y z s h1 h2 => by have := sis y s h1; have := sis z s h2; omega⟩
  have cx : CX (up sm0 x (some 0)) (up sm0 x (some 0)) 2 τ31 (fun i => i * 7) (fun _ => none) (fun x => 7 * x) (fun _ => none) := by
    refine ⟨svo, by decide, fun y s h => ⟨by have := sis y s h; omega, h⟩, ⟨x, up_same _ _ _⟩, fun p hp => ⟨(by decide : (31 : Nat) ≠ 0), (by decide : (31 : Nat) ≠ 0), x, up_same _ _ _⟩, fun y s h => ?_⟩
    have q := sis y s h
    exact ⟨by omega, by omega, ⟨y, s, 0, h, by decide, by show s * 7 = _; omega, rfl⟩, Or.inl ⟨rfl, rfl⟩⟩
  have kV : WP (up sm0 x (some 0)) 2 2 τ31 (vRes vAll 0 t) (fun q => if q = 7 * x then t else 31) := by
    refine ⟨t1, Or.inr ⟨t2, fun y hy q hq => ?_⟩, fun _ p p1 p2 => by rw [t3 p p2, if_neg (by omega)], fun p hp => ?_⟩
    · unfold rlS
      cases e : up sm0 x (some 0) y with
      | none =>
        have : y ≠ x := fun z => by subst z; rw [up_same] at e; cases e
        simp only
        rw [if_neg (by omega)]
      | some s =>
        have := sis y s e
        simp only
        rw [t3 _ (by omega)]
        by_cases q0 : q = 0
        · rw [if_pos (by omega), if_pos (by omega)]
        · rw [if_neg (by omega), if_neg (by omega)]
    · have h1 := hp.1
      have p0 : p ≠ 0 := fun z => hp.2 x (by rw [up_same, z])
      unfold LBp
      rw [t3 p (by omega), if_neg p0]
      exact ⟨fun _ => (by decide : (31 : Nat) &&& 31 = 31), fun _ => (by decide : (31 : Nat) &&& 31 = 31)⟩
  rcases EQ hf 7 n 0 2 sh [0] _ _ τ31 _ _ _ _ _ _ w wN cx (by decide) kV with ⟨e, e1, e2⟩ | ⟨F, F', e1, e2, f1, f2, f3, f4, f5, f6⟩
  · exact Or.inl ⟨e, e1, e2⟩
  · have vw : ∀ V g, WR (up sm0 x (some 0)) 2 sh τ31 V g → ∀ q, q < 7 → g (7 * x + q) = kd (V.2 0) q := by
      intro V g k q hq
      have ea : kd (V.2 0) q = av V q := by
        unfold av
        rw [show q / 7 = 0 by omega, show q % 7 = q by omega]
      rw [ea]
      rcases k.2.1 with r | r
      · rw [r.2 _ (by omega), k.1.z r.1 q (by omega)]
      · rw [r.2 x hx q hq]
        unfold rlS
        rw [up_same]
        simp only
        rw [show 7 * 0 + q = q by omega]
    exact Or.inr ⟨F, F', e1, e2, f1, vw _ _ f5, vw _ _ f6⟩
