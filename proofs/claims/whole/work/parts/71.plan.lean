/-! ===== plan, most, serve ===== -/
def embN (mm : Nat → Nat) : Nat → Nat
  | 0 => 0
  | i + 1 => embN mm i + (if mm i = 36 then 0 else 1)
section T71
variable {g : OG} {d : Nat} {I : IT} {X : XT} {K : Int32 → IT → XT → Prop} {KV : IT → XT → Prop}
variable {n w : Nat} {kd nd wd : Nat → Nat} {F : Nat → Nat} {m f a D : Nat} {dd : Nat → Nat} {S : Nat → Nat → Nat}
variable {goal wanted hours p aim : Nat} {R : PR} {mv : Nat → Nat}
theorem lp_X11_layRow {j : Nat} (hj : j < 6) (hh : hours ≤ 4) (I0 : IT) (hK : ∀ I', Same (fun b k => b = 132 ∧ 40 * j ≤ k ∧ k < 40 * j + 40) I0 I' → (∀ k, k < hours → I' 132 (40 * j + k) = I0 150 k) → KV I' X) : ∀ (q i : Nat) (I : IT), i + q = 40 → Same (fun b k => b = 132 ∧ 40 * j ≤ k ∧ k < 40 * j + 40) I0 I → (∀ k, k < i → k < hours → I 132 (40 * j + k) = I0 150 k) → SR g (d + 1) iX11_layRow 10 [(0, rf g 129), (1, .int (nI j)), (2, rf g 150), (3, .int (nI hours)), (4, .int (nI i))] I X (qV KV) := by
  intro q
  induction q with
  | zero =>
    intro i I hi hs hk
    obtain rfl : i = 40 := by omega
    exact rg_X11_layRow_10 ⟨fun _ => hK I hs (fun k hk2 => hk k (by omega) hk2), fun c => absurd (Int32.le_refl _) c⟩
  | succ q ih =>
    intro i I hi hs hk
    refine rg_X11_layRow_10 ⟨fun c => absurd c (nI_ge (a := i) (b := 40) (by omega) (by decide)), fun _ => ?_⟩
    rw [ix40, nI_clamp (n := 40 * j + i) (by omega), nI_clamp (n := i) (by omega), nI_leI (by omega) (by omega)]
    refine ⟨fun c => ⟨vp_in_nI (by omega) (by decide), fun I2 e2 x3 e3 => ?_⟩, fun c => ⟨vp_in_nI (by omega) (by decide), vp_in_nI (by omega) (by decide), fun I2 e2 x3 e3 => ?_⟩⟩
    · subst e3
      rw [nI_1]
      refine ih (i + 1) I2 (by omega) (by rw [e2]; exact hs.step (by omega)) (fun k hk1 hk2 => ?_)
      rw [e2, set2_at, if_neg (by omega)]
      exact hk k (by omega) hk2
    · subst e3
      rw [nI_1]
      refine ih (i + 1) I2 (by omega) (by rw [e2]; exact hs.step (by omega)) (fun k hk1 hk2 => ?_)
      rw [e2, set2_at]
      by_cases e : k = i
      · rw [if_pos ⟨rfl, by omega⟩, hs 150 i (by omega), e]
      · rw [if_neg (by omega)]
        exact hk k (by omega) hk2
theorem c_X11_layRow {j : Nat} (hj : j < 6) (hh : hours ≤ 4) (hK : ∀ I', Same (fun b k => (b = 131 ∧ k = j) ∨ (b = 132 ∧ 40 * j ≤ k ∧ k < 40 * j + 40)) I I' → I' 131 j = nI hours → (∀ k, k < hours → I' 132 (40 * j + k) = I 150 k) → KV I' X) : CV g (d + 1) iX11_layRow [rf g 129, .int (nI j), rf g 150, .int (nI hours)] I X KV := by
  refine en_X11_layRow ⟨vp_in_nI hj (by decide), fun I2 e2 => ?_⟩
  rw [nI_clamp (by omega)] at e2
  refine lp_X11_layRow hj hh I2 (fun I' h' hk => hK I' (fun b k hb => ?_) ?_ (fun k hk2 => ?_)) 40 0 I2 (by omega) Same.rf (fun k hk => absurd hk (Nat.not_lt_zero k))
  · rw [h' b k (by omega), e2, set2_at, if_neg (by omega)]
  · rw [h' 131 j (by omega), e2, set2_at, if_pos ⟨rfl, rfl⟩]
  · rw [hk k hk2, e2, set2_at, if_neg (by omega)]
theorem lp_X11_embers {mm : Nat → Nat} (hh : hours ≤ 4) (hv : ∀ k, k < hours → I 150 k = nI (mm k) ∧ mm k ≤ 36) (hK : K (nI (embN mm hours)) I X) : ∀ (q i : Nat), i + q = hours → SR g (d + 2) iX11_embers 4 [(0, rf g 129), (1, .int (nI hours)), (2, .int (nI (embN mm i))), (3, .int (nI i))] I X (qI K) := by
  intro q
  induction q with
  | zero =>
    intro i hi
    obtain rfl : i = hours := by omega
    exact rg_X11_embers_4 ⟨fun _ => hK, fun c => absurd (Int32.le_refl _) c⟩
  | succ q ih =>
    intro i hi
    have ih' := ih (i + 1) (by omega)
    refine rg_X11_embers_4 ⟨fun c => absurd c (nI_ge (by omega) (by omega)), fun _ => ⟨vp_in_nI (by omega) (by decide), ?_⟩⟩
    rw [nI_clamp (by omega), (hv i (by omega)).1]
    unfold embN at ih'
    refine c_X11_isNone (hv i (by omega)).2 (fun e => t_one (fun x7 e7 x8 e8 => ?_)) (fun e => t_zero (fun x7 e7 x8 e8 => ?_))
    · subst e7; subst e8
      rw [if_pos e] at ih'
      rw [p0, nI_1]
      exact ih'
    · subst e7; subst e8
      rw [if_neg (by omega)] at ih'
      rw [nI_1, nI_1]
      exact ih'
theorem c_X11_embers {mm : Nat → Nat} (hh : hours ≤ 4) (hv : ∀ k, k < hours → I 150 k = nI (mm k) ∧ mm k ≤ 36) (hK : K (nI (embN mm hours)) I X) : CI g (d + 2) iX11_embers [rf g 129, .int (nI hours)] I X K :=
  en_X11_embers (lp_X11_embers hh hv hK hours 0 (by omega))
end T71
