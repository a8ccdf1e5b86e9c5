/-! ===== plan, most, serve: the calls ===== -/
section T72
variable {g : OG} {d : Nat} {I : IT} {X : XT} {K : Int32 → IT → XT → Prop} {KV : IT → XT → Prop}
variable {n w : Nat} {kd nd wd : Nat → Nat} {F : Nat → Nat} {m f a D : Nat} {dd : Nat → Nat} {S : Nat → Nat → Nat}
variable {goal wanted hours p aim : Nat} {R : PR} {mv : Nat → Nat}
/-- the class's search and its row, then the model's: the same answer (where a plan may be missing) -/
theorem pl_both {j : Nat} {K1 : Int32 → IT → XT → Prop} (h : Inv I X) (hj : j < 6) (hg : (aim = 1 ∧ goal = 1) ∨ (aim = 4 ∧ goal = 3)) (hwn : wanted < 32) (hh4 : hours ≤ 4) (hE : iE I n w kd nd wd) (hV : iV I n kd D dd S)
    (hK1 : ∀ r I2, iE I2 n w kd nd wd → (CV g (d + 14) iX11_allPlans [rf g 129, .int (nI aim), .int (nI hours), .int (nI wanted)] I2 X (fun I10 X11 => (¬ (I10 129 31) = 0 → CV g (d + 14) iX11_layRow [rf g 129, .int (nI j), rf g 150, .int (nI hours)] I10 X11 (fun I12 X13 => CI g (d + 14) iX11_embers [rf g 129, .int (nI hours)] I12 X13 (fun r14 I15 X16 => r14 = r ∧ Inv I15 X16))) ∧ ((I10 129 31) = 0 → (-9 : Int32) = r ∧ Inv I10 X11))) → K1 r I2 X) :
    CV g (d + 14) iX5_search [rf g 72, rf g 33, .int (nI hours), .int (nI goal), .int (nI wanted)] I X (fun I10 X11 => vp_in (nI j) 6 ∧ CI g (d + 14) iX10_planInto [rf g 1, rf g (rowA j)] I10 X11 K1) := by
  obtain ⟨v1, v2, v3, v4, v5, v6, v7⟩ := id hV
  have hD := v1.1
  have hw := v1.2.2.1 D (Nat.le_refl D)
  have hra : 3 ≤ rowA j ∧ rowA j + 1 < 16 := by unfold rowA; omega
  have hag : AG aim goal := by unfold AG; omega
  refine c_X5_search (goal := goal) (wanted := wanted) (hours := hours) (by omega) hwn hh4 hE v2.2.2.2 hw (by omega) (fun I1 h1 p1 => ⟨vp_in_nI hj (by decide), ?_⟩)
  refine c_X10_planInto hj hh4 p1 all_mv (fun r0 => ?_) (fun r0 I2 h2 a1 a2 => ?_)
  · have hE1 : iE I1 n w kd nd wd := hE.same (fun b k hb => h1 b k (by omega))
    have hF1 : FM I1 0 (S D) := FM0.mpr (fun k hk => by rw [h1 142 k (by omega)]; exact v6 k hk)
    refine hK1 _ I1 hE1 (c_X11_allPlans hag hwn hh4 hE1 hF1 hw (by omega) (fun I3 h3 p3 => ?_))
    have e31 : I3 129 31 = 0 := by rw [p3.2.2.2.2.2.1 (by omega), if_pos r0]
    exact ⟨fun z => absurd e31 z, fun _ => ⟨rfl, inv_out (inv_out h h1.out h.2.2.1) h3.out h.2.2.1⟩⟩
  · have hs2 : ∀ b k, ¬ ((b = 72 ∧ 3 ≤ k ∧ k ≤ 9) ∨ b = 74 ∨ b = 75 ∨ (76 ≤ b ∧ b ≤ 90)) → ¬ ((b = rowA j ∧ k = 1) ∨ b = rowA j + 1) → I2 b k = I b k := fun b k hb hb2 => by rw [h2 b k hb2, h1 b k hb]
    have hE2 : iE I2 n w kd nd wd := hE.same (fun b k hb => hs2 b k (by omega) (by omega))
    have hF2 : FM I2 0 (S D) := FM0.mpr (fun k hk => by rw [hs2 142 k (by omega) (by omega)]; exact v6 k hk)
    refine hK1 _ I2 hE2 (c_X11_allPlans hag hwn hh4 hE2 hF2 hw (by omega) (fun I3 h3 p3 => ?_))
    have e31 : I3 129 31 = 1 := by rw [p3.2.2.2.2.2.1 (by omega), if_neg (by omega)]
    rw [e31]
    refine t_one' (c_X11_layRow hj hh4 (fun I4 h4 b1 b2 => ?_))
    refine c_X11_embers (mm := (allS n w goal wanted hours kd nd wd (S D)).2.1) hh4 (fun k hk => ⟨?_, all_mv k⟩) ⟨rfl, ?_⟩
    · rw [h4 150 k (by omega)]
      exact p3.2.2.2.2.2.2.2 r0 k hk
    · refine inv_rowset hj (z := hours) (by omega) h (fun b k q1 q2 q3 q4 q5 => ?_) ?_ b1 (fun k hk => ?_)
      · unfold Out at q1
        rw [h4 b k (by omega), h3 b k (by omega), hs2 b k (by omega) (by omega)]
      · rw [h4 _ 1 (by omega), h3 _ 1 (by omega)]; exact a1
      · rw [b2 k hk, p3.2.2.2.2.2.2.2 r0 k hk, h4 _ k (by omega), h3 _ k (by omega)]; exact a2 k hk
theorem op_plan {u v x : Int32} (h : Inv I X) : PairI g (d + 15) iX10_plan iX11_plan [.int u, .int v, .int x] I X := by
  obtain ⟨n, w, kd, nd, wd, D, dd, S, hE, hV, hK⟩ := h.2.2.2.2.2
  have hn := hE.1.2.2
  refine en_X10_plan (c_X3_has hE (fun q => t_one ?_) (fun q => t_zero (en_X11_plan (c_X11_isHouse hE (fun z => absurd z q) (fun _ => t_zero ⟨rfl, h⟩)))))
  refine c_X10_isAhead (fun qv => t_one ?_) (fun qv => t_zero (en_X11_plan (c_X11_isHouse hE (fun _ => t_one (c_X11_in (fun z => absurd ((inB (n := 4) (by decide)).mp z) qv) (fun _ => t_zero ⟨rfl, h⟩))) (fun z => absurd q z))))
  have hin := (inB (n := 4) (by decide)).mpr qv
  refine c_X10_isRow (fun qx => t_one' ?_) (fun qx => t_zero' (en_X11_plan (c_X11_isHouse hE (fun _ => t_one (c_X11_in (fun _ => t_one (c_X11_isRow (fun z => absurd z qx) (fun _ => t_zero' ⟨rfl, h⟩))) (fun z => absurd hin z))) (fun z => absurd q z))))
  obtain ⟨j, hj, rfl⟩ := vp_in_of q (by omega)
  obtain ⟨hr, hr5, rfl⟩ := vp_in_of qv (by decide)
  obtain ⟨r, hr6, rfl⟩ := vp_in_of qx (by decide)
  rw [nI_clamp (n := r) (by omega)]
  refine pl_both (aim := 1) (goal := 1) (wanted := j) (hours := hr) h hr6 (Or.inl ⟨rfl, rfl⟩) (by omega) (by omega) hE hV (fun r1 I2 he2 hall => ?_)
  refine en_X11_plan (c_X11_isHouse he2 (fun _ => t_one (c_X11_in (fun _ => t_one (c_X11_isRow (fun _ => t_one' ?_) (fun z => absurd qx z))) (fun z => absurd hin z))) (fun z => absurd q z))
  exact hall
theorem op_serve {v x : Int32} (h : Inv I X) : PairI g (d + 15) iX10_serve iX11_serve [.int v, .int x] I X := by
  obtain ⟨n, w, kd, nd, wd, D, dd, S, hE, hV, hK⟩ := h.2.2.2.2.2
  have hn := hE.1.2.2
  have e10 : nI n = 0 ↔ n = 0 := nI_eqL 0 (by omega) (by decide)
  refine en_X10_serve (c_X10_isAhead (fun qv => t_one ?_) (fun qv => t_zero (en_X11_serve (c_X11_in (fun z => absurd ((inB (n := 4) (by decide)).mp z) qv) (fun _ => t_zero ⟨rfl, h⟩)))))
  have hin := (inB (n := 4) (by decide)).mpr qv
  refine c_X10_isRow (fun qx => t_one' ?_) (fun qx => t_zero' (en_X11_serve (c_X11_in (fun _ => t_one (c_X11_isRow (fun z => absurd z qx) (fun _ => t_zero' ⟨rfl, h⟩))) (fun z => absurd hin z))))
  obtain ⟨hr, hr5, rfl⟩ := vp_in_of qv (by decide)
  obtain ⟨r, hr6, rfl⟩ := vp_in_of qx (by decide)
  refine c_X3_isEmpty hE (fun q0 => t_one ?_) (fun q0 => t_zero ?_)
  · refine en_X11_serve (c_X11_in (fun _ => t_one (c_X11_isRow (fun _ => t_one' ?_) (fun z => absurd qx z))) (fun z => absurd hin z))
    rw [hE.1.2.1, e10]
    exact ⟨fun z => absurd q0 z, fun _ => ⟨rfl, h⟩⟩
  · rw [nI_clamp (n := r) (by omega)]
    refine pl_both (aim := 4) (goal := 3) (wanted := 0) (hours := hr) h hr6 (Or.inr ⟨rfl, rfl⟩) (by omega) (by omega) hE hV (fun r1 I2 he2 hall => ?_)
    refine en_X11_serve (c_X11_in (fun _ => t_one (c_X11_isRow (fun _ => t_one' ?_) (fun z => absurd qx z))) (fun z => absurd hin z))
    rw [he2.1.2.1, e10]
    exact ⟨fun _ => hall, fun z => by omega⟩
theorem op_most {v x : Int32} (h : Inv I X) : PairI g (d + 15) iX10_most iX11_most [.int v, .int x] I X := by
  obtain ⟨n, w, kd, nd, wd, D, dd, S, hE, hV, hK⟩ := h.2.2.2.2.2
  have hn := hE.1.2.2
  obtain ⟨v1, v2, v3, v4, v5, v6, v7⟩ := id hV
  have hD := v1.1
  have hw := v1.2.2.1 D (Nat.le_refl D)
  have e10 : nI n = 0 ↔ n = 0 := nI_eqL 0 (by omega) (by decide)
  refine en_X10_most (c_X10_isAhead (fun qv => t_one ?_) (fun qv => t_zero (en_X11_most (c_X11_in (fun z => absurd ((inB (n := 4) (by decide)).mp z) qv) (fun _ => t_zero ⟨rfl, h⟩)))))
  have hin := (inB (n := 4) (by decide)).mpr qv
  refine c_X10_isRow (fun qx => t_one' ?_) (fun qx => t_zero' (en_X11_most (c_X11_in (fun _ => t_one (c_X11_isRow (fun z => absurd z qx) (fun _ => t_zero' ⟨rfl, h⟩))) (fun z => absurd hin z))))
  obtain ⟨hr, hr5, rfl⟩ := vp_in_of qv (by decide)
  obtain ⟨j, hj, rfl⟩ := vp_in_of qx (by decide)
  have hra : 3 ≤ rowA j ∧ rowA j + 1 < 16 := by unfold rowA; omega
  refine c_X3_isEmpty hE (fun q0 => t_one ?_) (fun q0 => t_zero ?_)
  · refine en_X11_most (c_X11_in (fun _ => t_one (c_X11_isRow (fun _ => t_one' ?_) (fun z => absurd qx z))) (fun z => absurd hin z))
    rw [hE.1.2.1, e10]
    exact ⟨fun z => absurd q0 z, fun _ => ⟨rfl, h⟩⟩
  · refine c_X5_search (goal := 2) (wanted := 0) (hours := hr) (by decide) (by decide) (by omega) hE v2.2.2.2 hw (by omega) (fun I1 h1 p1 => ⟨qx, ?_⟩)
    rw [nI_clamp (n := j) (by omega)]
    have hpos : 0 < (allS n w 2 0 hr kd nd wd (S D)).1 := walk_most hr 0 _ _ _
    refine c_X10_planInto hj (by omega) p1 all_mv (fun r0 => by omega) (fun r0 I2 h2 a1 a2 => ?_)
    have hs2 : ∀ b k, ¬ ((b = 72 ∧ 3 ≤ k ∧ k ≤ 9) ∨ b = 74 ∨ b = 75 ∨ (76 ≤ b ∧ b ≤ 90)) → ¬ ((b = rowA j ∧ k = 1) ∨ b = rowA j + 1) → I2 b k = I b k := fun b k hb hb2 => by rw [h2 b k hb2, h1 b k hb]
    have hE2 : iE I2 n w kd nd wd := hE.same (fun b k hb => hs2 b k (by omega) (by omega))
    have hF2 : FM I2 0 (S D) := FM0.mpr (fun k hk => by rw [hs2 142 k (by omega) (by omega)]; exact v6 k hk)
    have e726 : I2 72 6 = nI (allS n w 2 0 hr kd nd wd (S D)).1 - 1 := by rw [h2 72 6 (by omega)]; exact p1.2.2.2.1
    refine en_X11_most (c_X11_in (fun _ => t_one (c_X11_isRow (fun _ => t_one' ?_) (fun z => absurd qx z))) (fun z => absurd hin z))
    rw [hE2.1.2.1, e10]
    refine ⟨fun _ => c_X11_allPlans (aim := 3) (goal := 2) (wanted := 0) (Or.inr (Or.inr (Or.inr (Or.inl ⟨rfl, rfl⟩)))) (by decide) (by omega) hE2 hF2 hw (by omega) (fun I3 h3 p3 => ?_), fun z => by omega⟩
    refine c_X11_layRow hj (by omega) (fun I4 h4 b1 b2 => ⟨?_, ?_⟩)
    · rw [h4 129 32 (by omega), p3.2.2.2.2.2.2.1 rfl, e726]
    · refine inv_rowset hj (z := hr) (by omega) h (fun b k q1 q2 q3 q4 q5 => ?_) ?_ b1 (fun k hk => ?_)
      · unfold Out at q1
        rw [h4 b k (by omega), h3 b k (by omega), hs2 b k (by omega) (by omega)]
      · rw [h4 _ 1 (by omega), h3 _ 1 (by omega)]; exact a1
      · rw [b2 k hk, p3.2.2.2.2.2.2.2 r0 k hk, h4 _ k (by omega), h3 _ k (by omega)]; exact a2 k hk
end T72
