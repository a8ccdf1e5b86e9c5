/-! ===== plan, most, serve ===== -/
def embN (mm : Nat → Nat) : Nat → Nat
  | 0 => 0
  | i + 1 => embN mm i + (if mm i = 36 then 0 else 1)
section T71
variable {g : OG} {d : Nat} {I : IT} {X : XT} {K : Int32 → IT → XT → Prop} {KV : IT → XT → Prop}
variable {n w : Nat} {kd nd wd : Nat → Nat} {F : Nat → Nat} {m f a D : Nat} {dd : Nat → Nat} {S : Nat → Nat → Nat}
variable {goal wanted hours p aim : Nat} {R : PR} {mv : Nat → Nat}
theorem lp_X11_layRow {j : Nat} (hj : j < 6) (hh : hours ≤ 4) (I0 : IT) (hK : ∀ I', Same (fun b k => b = 132 ∧ 40 * j ≤ k ∧ k < 40 * j + 40) I0 I' → (∀ k, k < hours → I' 132 (40 * j + k) = I0 150 k) → KV I' X) : ∀ (q i : Nat) (I : IT), i + q = 40 → Same (fun b k => b = 132 ∧ 40 * j ≤ k ∧ k < 40 * j + 40) I0 I → (∀ k, k < i → k < hours → I 132 (40 * j + k) = I0 150 k) → SR g (d + 1) iX11_layRow 10 [(0, rf g 129), (1, .int (nI j)), (2, rf g 150), (3, .int (nI hours)), (4, .int (nI i))] I X (qV KV) := by
  intro q
  induction q with
  | zero =>
    intro i I hi hs hk
    obtain rfl : i = 40 := by omega
    exact rg_X11_layRow_10 ⟨fun _ => hK I hs (fun k hk2 => hk k (by omega) hk2), fun c => absurd (Int32.le_refl _) c⟩
  | succ q ih =>
    intro i I hi hs hk
    refine rg_X11_layRow_10 ⟨fun c => absurd c (nI_ge (a := i) (b := 40) (by omega) (by decide)), fun _ => ?_⟩
    rw [ix40, nI_clamp (n := 40 * j + i) (by omega), nI_clamp (n := i) (by omega), nI_leI (by omega) (by omega)]
    refine ⟨fun c => ⟨vp_in_nI (by omega) (by decide), fun I2 e2 x3 e3 => ?_⟩, fun c => ⟨vp_in_nI (by omega) (by decide), vp_in_nI (by omega) (by decide), fun I2 e2 x3 e3 => ?_⟩⟩
    · subst e3
      rw [nI_1]
      refine ih (i + 1) I2 (by omega) (by rw [e2]; exact hs.step (by omega)) (fun k hk1 hk2 => ?_)
      rw [e2, set2_at, if_neg (by omega)]
      exact hk k (by omega) hk2
    · subst e3
      rw [nI_1]
      refine ih (i + 1) I2 (by omega) (by rw [e2]; exact hs.step (by omega)) (fun k hk1 hk2 => ?_)
      rw [e2, set2_at]
      by_cases e : k = i
      · rw [if_pos ⟨rfl, by omega⟩, hs 150 i (by omega), e]
      · rw [if_neg (by omega)]
        exact hk k (by omega) hk2
theorem c_X11_layRow {j : Nat} (hj : j < 6) (hh : hours ≤ 4) (hK : ∀ I', Same (fun b k => (b = 131 ∧ k = j) ∨ (b = 132 ∧ 40 * j ≤ k ∧ k < 40 * j + 40)) I I' → I' 131 j = nI hours → (∀ k, k < hours → I' 132 (40 * j + k) = I 150 k) → KV I' X) : CV g (d + 1) iX11_layRow [rf g 129, .int (nI j), rf g 150, .int (nI hours)] I X KV := by
  refine en_X11_layRow ⟨vp_in_nI hj (by decide), fun I2 e2 => ?_⟩
  rw [nI_clamp (by omega)] at e2
  refine lp_X11_layRow hj hh I2 (fun I' h' hk => hK I' (fun b k hb => ?_) ?_ (fun k hk2 => ?_)) 40 0 I2 (by omega) Same.rf (fun k hk => absurd hk (Nat.not_lt_zero k))
  · rw [h' b k (by omega), e2, set2_at, if_neg (by omega)]
  · rw [h' 131 j (by omega), e2, set2_at, if_pos ⟨rfl, rfl⟩]
  · rw [hk k hk2, e2, set2_at, if_neg (by omega)]
theorem lp_X11_embers {mm : Nat → Nat} (hh : hours ≤ 4) (hv : ∀ k, k < hours → I 150 k = nI (mm k) ∧ mm k ≤ 36) (hK : K (nI (embN mm hours)) I X) : ∀ (q i : Nat), i + q = hours → SR g (d + 2) iX11_embers 4 [(0, rf g 129), (1, .int (nI hours)), (2, .int (nI (embN mm i))), (3, .int (nI i))] I X (qI K) := by
  intro q
  induction q with
  | zero =>
    intro i hi
    obtain rfl : i = hours := by omega
    exact rg_X11_embers_4 ⟨fun _ => hK, fun c => absurd (Int32.le_refl _) c⟩
  | succ q ih =>
    intro i hi
    have ih' := ih (i + 1) (by omega)
    refine rg_X11_embers_4 ⟨fun c => absurd c (nI_ge (by omega) (by omega)), fun _ => ⟨vp_in_nI (by omega) (by decide), ?_⟩⟩
    rw [nI_clamp (by omega), (hv i (by omega)).1]
    unfold embN at ih'
    refine c_X11_isNone (hv i (by omega)).2 (fun e => t_one (fun x7 e7 x8 e8 => ?_)) (fun e => t_zero (fun x7 e7 x8 e8 => ?_))
    · subst e7; subst e8
      rw [if_pos e] at ih'
      rw [p0, nI_1]
      exact ih'
    · subst e7; subst e8
      rw [if_neg (by omega)] at ih'
      rw [nI_1, nI_1]
      exact ih'
theorem c_X11_embers {mm : Nat → Nat} (hh : hours ≤ 4) (hv : ∀ k, k < hours → I 150 k = nI (mm k) ∧ mm k ≤ 36) (hK : K (nI (embN mm hours)) I X) : CI g (d + 2) iX11_embers [rf g 129, .int (nI hours)] I X K :=
  en_X11_embers (lp_X11_embers hh hv hK hours 0 (by omega))
theorem walk_mv : ∀ (r p : Nat) (F mv : Nat → Nat) (R : PR), (∀ k, mv k ≤ 36) → (∀ k, R.2.1 k ≤ 36) → ∀ k, (walkS n w goal wanted kd nd wd r p F mv R).2.1 k ≤ 36
  | 0, p, F, mv, R, h1, h2 => by
    intro k
    show (if R.1 < reaN n goal wanted nd F then mv else R.2.1) k ≤ 36
    split
    · exact h1 k
    · exact h2 k
  | r + 1, p, F, mv, R, h1, h2 => by
    rw [walkS_s]
    have key : ∀ (q i : Nat) (R : PR), i + q = 37 → (∀ k, R.2.1 k ≤ 36) → ∀ k, (loopS (stepS n w goal wanted kd nd wd r p F mv) q i R).2.1 k ≤ 36 := by
      intro q
      induction q with
      | zero => exact fun _ _ _ h => h
      | succ q ih =>
        intro i R hi h
        refine ih (i + 1) _ (by omega) ?_
        unfold stepS
        split
        · refine walk_mv r (p + 1) _ _ R (fun k => ?_) h
          rw [mW_at]
          split
          · omega
          · exact h1 k
        · exact h
    exact key 37 0 R rfl h2
theorem loop_last {f : Nat → PR → PR} : ∀ (q i : Nat) (R : PR), loopS f (q + 1) i R = f (i + q) (loopS f q i R)
  | 0, i, R => rfl
  | q + 1, i, R => by
    show loopS f (q + 1) (i + 1) (f i R) = f (i + (q + 1)) (loopS f q (i + 1) (f i R))
    rw [loop_last q (i + 1) (f i R), show i + 1 + q = i + (q + 1) by omega]
theorem walk_most : ∀ (r p : Nat) (F mv : Nat → Nat) (R : PR), 0 < (walkS n w 2 wanted kd nd wd r p F mv R).1
  | 0, p, F, mv, R => by
    show 0 < (if R.1 < reaN n 2 wanted nd F then reaN n 2 wanted nd F else R.1)
    have : reaN n 2 wanted nd F = pop (bset F n) + 1 := rfl
    rw [this]
    split <;> omega
  | r + 1, p, F, mv, R => by
    rw [walkS_s, loop_last 36 0]
    show 0 < (stepS n w 2 wanted kd nd wd r p F mv 36 _).1
    unfold stepS
    rw [if_pos ⟨Or.inl rfl, fun z => absurd z (by decide)⟩]
    exact walk_most r (p + 1) _ _ _
theorem all_mv : ∀ k, (allS n w goal wanted hours kd nd wd F).2.1 k ≤ 36 := walk_mv hours 0 F _ R00 (fun _ => Nat.zero_le _) (fun _ => Nat.zero_le _)
-- the class lays the best plan into a row
theorem c_X5_bestMove {i : Nat} (hi : i < 4) (hK : K (I 75 i) I X) : CI g (d + 1) iX5_bestMove [rf g 72, .int (nI i)] I X K := by
  refine en_X5_bestMove ⟨fun c => absurd c (nI_pos (by omega)), fun _ => ⟨fun c => absurd c (nI_ge (a := i) (b := 4) (by omega) (by decide)), fun _ => ⟨vp_in_nI (by omega) (by decide), ?_⟩⟩⟩
  rw [nI_clamp (by omega)]
  exact hK
theorem lp_X10_planInto {j : Nat} {mm : Nat → Nat} (hj : j < 6) (hh : hours ≤ 4) (I0 : IT) (h5 : I0 72 5 = nI hours) (hv : ∀ k, k < hours → I0 75 k = nI (mm k) ∧ mm k ≤ 36) (hK : ∀ I', Same (fun b k => (b = rowA j ∧ k = 1) ∨ b = rowA j + 1) I0 I' → I' (rowA j) 1 = nI hours → (∀ k, k < hours → I' (rowA j + 1) k = nI (mm k)) → K (nI (embN mm hours)) I' X) : ∀ (q i : Nat) (I : IT), i + q = hours → Same (fun b k => (b = rowA j ∧ k = 1) ∨ b = rowA j + 1) I0 I → I (rowA j) 1 = nI hours → (∀ k, k < i → I (rowA j + 1) k = nI (mm k)) → SR g (d + 3) iX10_planInto 28 [(0, rf g 1), (1, rf g (rowA j)), (2, .int (nI (embN mm i))), (3, .int (nI i))] I X (qI K) := by
  have hra : rowA j + 1 < 16 := by unfold rowA; omega
  intro q
  induction q with
  | zero =>
    intro i I hi hs hz hk
    obtain rfl : i = hours := by omega
    refine rg_X10_planInto_28 (rowA_mem hj) ?_
    rw [hs 72 5 (by omega), h5]
    exact ⟨fun _ => hK I hs hz hk, fun c => absurd (Int32.le_refl _) c⟩
  | succ q ih =>
    intro i I hi hs hz hk
    refine rg_X10_planInto_28 (rowA_mem hj) ?_
    rw [hs 72 5 (by omega), h5]
    obtain ⟨hv1, hv2⟩ := hv i (by omega)
    refine ⟨fun c => absurd c (nI_ge (by omega) (by omega)), fun _ => c_X5_bestMove (by omega) ?_⟩
    rw [hs 75 i (by omega), hv1]
    refine c_X7_set (rowA_mem hj) hz (by omega) (vp_in_nI (by omega) (by omega)) ?_
    rw [nI_clamp (by omega)]
    refine c_X5_bestMove (by omega) ?_
    rw [set2_at, if_neg (by omega), hs 75 i (by omega), hv1, show nI (mm i) = 36 ↔ mm i = 36 from nI_eqL 36 (by omega) (by decide)]
    have ih' := ih (i + 1) (set2 I (rowA j + 1) i (nI (mm i))) (by omega) (hs.step (Or.inr rfl)) (by rw [set2_at, if_neg (by omega)]; exact hz) (fun k hk2 => by
      rw [set2_at]
      by_cases e : k = i
      · rw [if_pos ⟨rfl, e⟩, e]
      · rw [if_neg (fun z => e z.2)]; exact hk k (by omega))
    unfold embN at ih'
    refine ⟨fun e x9 e9 x10 e10 => ?_, fun e x9 e9 x10 e10 => ?_⟩
    · subst e9; subst e10
      rw [if_neg e] at ih'
      rw [nI_1, nI_1]
      exact ih'
    · subst e9; subst e10
      rw [if_pos e] at ih'
      rw [p0, nI_1]
      exact ih'
theorem c_X10_planInto {j : Nat} (hj : j < 6) (hh : hours ≤ 4) (hp : PC I goal wanted hours R) (hm36 : ∀ k, R.2.1 k ≤ 36) (h0 : R.1 = 0 → K (-9) I X) (hK : 0 < R.1 → ∀ I', Same (fun b k => (b = rowA j ∧ k = 1) ∨ b = rowA j + 1) I I' → I' (rowA j) 1 = nI hours → (∀ k, k < hours → I' (rowA j + 1) k = nI (R.2.1 k)) → K (nI (embN R.2.1 hours)) I' X) : CI g (d + 3) iX10_planInto [rf g 1, rf g (rowA j)] I X K := by
  obtain ⟨c1, c2, c3, c4, c5, c6, c7⟩ := hp
  have hra : rowA j + 1 < 16 := by unfold rowA; omega
  refine en_X10_planInto (rowA_mem hj) (en_X5_isFound ?_)
  rw [c4, pm1_lt _ (by omega)]
  refine ⟨fun z => t_zero' (h0 z), fun z => t_one' ?_⟩
  refine c_X7_begin (rowA_mem hj) c3 (by omega) (fun I1 h1 hz _ => ?_)
  refine lp_X10_planInto (mm := R.2.1) hj hh I1 (by rw [h1 72 5 (by omega)]; exact c3) (fun k hk => by rw [h1 75 k (by omega)]; exact ⟨c7 (by omega) k hk, hm36 k⟩) (fun I2 h2 a1 a2 => hK (by omega) I2 (h1.trans h2) a1 a2) hours 0 I1 (by omega) Same.rf hz (fun k hk => absurd hk (Nat.not_lt_zero k))
theorem inv_rowset {j z : Nat} {I2 : IT} (hj : j < 6) (hz : z ≤ 40) (h : Inv I X) (hs : ∀ b k, ¬ Out b k → ¬ (b = rowA j ∧ k = 1) → b ≠ rowA j + 1 → ¬ (b = 131 ∧ k = j) → ¬ (b = 132 ∧ 40 * j ≤ k ∧ k < 40 * j + 40) → I2 b k = I b k) (h1 : I2 (rowA j) 1 = nI z) (h2 : I2 131 j = nI z) (h3 : ∀ k, k < z → I2 (rowA j + 1) k = I2 132 (40 * j + k)) : Inv I2 X := by
  have hra : 3 ≤ rowA j ∧ rowA j + 1 < 16 := by unfold rowA; omega
  unfold Out at hs
  refine ⟨h.1.same (fun b k hb => hs b k (by omega) (by omega) (by omega) (by omega) (by omega)), h.2.1.same (fun b k hb => hs b k (by omega) (by omega) (by omega) (by omega) (by omega)), h.2.2.1, fun r hr => ?_, h.2.2.2.2.1.same (fun b k hb => hs b k (by omega) (by omega) (by omega) (by omega) (by omega)), h.2.2.2.2.2.same (fun b k hb => hs b k (by omega) (by omega) (by omega) (by omega) (by omega))⟩
  by_cases e : r = j
  · subst e
    exact ⟨h1.trans h2.symm, Or.inr ⟨z, hz, h2, h3⟩⟩
  · have hrr : 3 ≤ rowA r ∧ rowA r + 1 < 16 := by unfold rowA; omega
    have hne : rowA r ≠ rowA j ∧ rowA r ≠ rowA j + 1 ∧ rowA r + 1 ≠ rowA j := by unfold rowA; omega
    obtain ⟨a1, a2⟩ := h.2.2.2.1 r hr
    have b1 := hs (rowA r) 1 (by omega) (by omega) (by omega) (by omega) (by omega)
    have b2 := hs 131 r (by omega) (by omega) (by omega) (by omega) (by omega)
    refine ⟨by rw [b1, b2]; exact a1, ?_⟩
    rw [b2]
    rcases a2 with a2 | ⟨y, hy, a2, a3⟩
    · exact Or.inl a2
    · refine Or.inr ⟨y, hy, a2, fun k hk => ?_⟩
      rw [hs (rowA r + 1) k (by omega) (by omega) (by omega) (by omega) (by omega), hs 132 _ (by omega) (by omega) (by omega) (by omega) (by omega)]
      exact a3 k hk
end T71
