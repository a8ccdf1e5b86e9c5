/-! ===== the objects as they are made keep the invariant ===== -/
theorem if0 {b k : Nat} (h : ¬ b ∈ rowL ∧ ¬ b ∈ textL ∧ b ≠ 72 ∧ b ≠ 131 ∧ b ≠ 134) : IFt b k = 0 := by
  unfold IFt
  rw [if_neg (fun q => q.1.elim h.1 h.2.1), if_neg (fun q => h.2.2.1 q.1), if_neg (fun q => q.elim (fun q => h.2.2.2.1 q.1) (fun q => h.2.2.2.2 q.1))]
theorem fr0 {a : Nat} (h : a ∈ fireL) : FR IFt a 0 z0 := by
  have key : ∀ a ∈ fireL, ¬ a ∈ rowL ∧ ¬ a ∈ textL ∧ a ≠ 72 ∧ a ≠ 131 ∧ a ≠ 134 := by decide
  have e := key a h
  exact ⟨fun q hq => absurd hq (by omega), if0 e, if0 e, if0 e, if0 e⟩
theorem inv_first : Inv IFt (LFt, 0, 0) := by
  refine ⟨⟨by decide, fun f hf => ?_⟩, by unfold iA; decide, ⟨by decide, by decide⟩, fun r hr => ?_, fun r hr => ?_, ?_⟩
  · rw [if0 (b := 128) (by decide), if0 (b := 130) (by decide)]
  · have key : ∀ r, r < 6 → IFt (rowA r) 1 = -1 ∧ IFt 131 r = -1 := by decide
    have := key r hr
    rw [this.1, this.2]
    exact ⟨rfl, Or.inl rfl⟩
  · have key : ∀ r, r < 4 → IFt (textA r) 1 = -1 ∧ IFt 134 r = -1 := by decide
    have := key r hr
    rw [this.1, this.2]
    exact ⟨rfl, Or.inl rfl⟩
  · refine ⟨0, 0, z0, z0, z0, 0, z0, fun _ => z0, ⟨⟨by decide, by decide, by omega⟩, ⟨by decide, by decide, by omega, fun h => h⟩, fun h hh => absurd hh (by omega), fun h hh => absurd hh (by omega), fun h hh => absurd hh (by omega)⟩, ⟨⟨by omega, fun i hi => absurd hi (by omega), fun i hi => ⟨fun h hh => absurd hh (by omega), Nat.zero_le _, Nat.zero_le _, Nat.zero_le _, fun k hk => Nat.zero_le _⟩, fun h hh => absurd hh (by omega), rfl, rfl⟩, ⟨by decide, fun i hi => absurd hi (by omega), fr0 (by decide), fr0 (by decide)⟩, fun h => absurd h (by omega), by decide, fun k hk => if0 (by decide), fun k hk => if0 (by decide), fun i hi => absurd hi (by omega)⟩, fun k hk => ?_⟩
    have key : ∀ k, k < 3 → IFt (keptA k) 4 = 0 := by decide
    rw [key k hk, if0 (b := 144) (by decide)]
    exact ⟨rfl, Or.inl rfl⟩
