/-! What a read text is to the checker. -/
theorem FXs.fd {C : cS} {fx : fnT} (h : FXs C fx) : FD C (fun i => (fx i).isSome) := by
  refine ⟨h.1, fun i hi => ?_⟩
  have h3 := h.2 i hi
  cases e : fx i with
  | none =>
    rw [e] at h3
    rw [show cR C 4 i = none from h3]
    show _ = (fx i).isSome
    rw [e]
    rfl
  | some z =>
    obtain ⟨pt, kk, y, n⟩ := z
    rw [e] at h3
    obtain ⟨p1, p2, fa, p3, p4, p5⟩ := h3
    rw [p4]
    show _ = (fx i).isSome
    rw [e]
    rfl
theorem smE_sc : scO smE [0, 1] := by
  intro i t e
  unfold smE at e
  split at e
  · cases e; simp
  · split at e
    · cases e; simp
    · cases e
theorem smD_sc (x : Nat) : scO (up sm0 x (some 0)) [0] := by
  intro i t e
  by_cases z : i = x
  · subst z; rw [up_same] at e; cases e; simp
  · rw [up_ne _ _ z] at e; cases e
theorem pRead_wt {ch : Nat → Option Nat} {len p : Nat} {fd : Nat → Bool} {sm : Nat → Option Nat} {sc : List Nat} {s' : pS} (hc : chO ch len) (hs : scO sm sc) (h : pPart ch fd 6 sm (p, 2, 0, T0) = .inr s') : wt s'.2.2.2 7 (s'.2.2.1 - 1) 0 2 s'.2.1 sc ∧ 0 < s'.2.2.1 ∧ s'.2.2.1 ≤ 60 := by
  have q := pPart_ok fd hc 6 sm sc (p, 2, 0, T0) s' hs ⟨Nat.zero_le _, show (2 : Nat) ≤ 17 by decide⟩ h
  have w : wt s'.2.2.2 7 (s'.2.2.1 - 1) 0 2 s'.2.1 sc := q.2.2.2.2.2.2.2
  have z : 0 < s'.2.2.1 := q.2.2.1
  have l := (wt_lt w).1
  exact ⟨w, z, by omega⟩
theorem sc01 : ∀ s, s ∈ [0, 1] → s < 2 := by simp
theorem sc0 : ∀ s, s ∈ [0] → s < 2 := by simp
