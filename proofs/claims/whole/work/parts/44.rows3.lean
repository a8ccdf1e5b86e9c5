/-! ===== lay, at, text, put ===== -/
section T44
variable {g : OG} {d : Nat} {I : IT} {X : XT} {K : Int32 → IT → XT → Prop} {KV : IT → XT → Prop}
theorem m1_lt : ((-1) : Int32) < 0 := by decide
theorem m1_nle : ¬ (0 : Int32) ≤ (-1) := by decide
theorem in_pred {x : Int32} {z : Nat} (hz : z < 2 ^ 30) : (0 ≤ x ∧ x ≤ nI z - 1) ↔ vp_in x z := by
  have e : (nI z - 1).toInt = (z : Int) - 1 := pk_sub_toInt (b := 1) hz (by decide)
  simp only [vp_in_iff, i_le, e, Int32.reduceToInt]
  omega
theorem c_X7_lacks_m {a : Nat} {i : Int32} (ha : a ∈ rowL) (hz : I a 1 = (-1)) (hK : K 1 I X) : CI g (d + 2) iX7_lacks [rf g a, .int i] I X K :=
  en_X7_lacks ha (c_X7_isThere ha (fun c => absurd (by rw [hz]; exact m1_lt) c) (fun _ => t_zero' hK))
theorem c_X7_lacks {a z : Nat} {i : Int32} (ha : a ∈ rowL) (hz : I a 1 = nI z) (hz2 : z ≤ 40) (hT : vp_in i z → K 0 I X) (hF : ¬ vp_in i z → K 2 I X) : CI g (d + 2) iX7_lacks [rf g a, .int i] I X K :=
  en_X7_lacks ha (c_X7_isThere ha (fun _ => t_one' (c_X7_has ha hz hz2 (fun q => t_one (hT q)) (fun q => t_zero (hF q)))) (fun c => absurd c (by rw [hz]; exact nI_pos (by omega))))
theorem c_X11_tells {v r : Int32} (hK : K r (set2 I 129 2 v) X) : CI g (d + 1) iX11_tells [rf g 129, .int v, .int r] I X K := en_X11_tells (fun I1 e1 => by subst e1; exact hK)
theorem c_X11_rowAt {j i : Nat} (hj : j < 6) (hi : i < 40) (hK : K (I 132 (40 * j + i)) I X) : CI g (d + 1) iX11_rowAt [rf g 129, .int (nI j), .int (nI i)] I X K := by
  refine en_X11_rowAt ?_
  rw [ix40, nI_clamp (by omega)]
  exact ⟨vp_in_nI (by omega) (by decide), hK⟩
/-- asked on both sides -/
theorem inv_asked {v : Int32} (h : Inv I X) : Inv (set2 (set2 I 1 14 v) 129 2 v) X := by
  obtain ⟨h1, h2, h3, h4, h5, h6⟩ := h
  have hs : ∀ b k, ¬ ((b = 1 ∧ k = 14) ∨ (b = 129 ∧ k = 2)) → set2 (set2 I 1 14 v) 129 2 v b k = I b k := by
    intro b k hb
    rw [set2_at, if_neg (by omega), set2_at, if_neg (by omega)]
  refine ⟨h1.same (fun b k hb => hs b k (by omega)), ?_, h3, h4.same (fun b k hb => hs b k (by omega)), h5.same (fun b k hb => hs b k (by omega)), h6.same (fun b k hb => hs b k (by omega))⟩
  unfold iA
  simp [set2_at]
theorem op_at {a b : Int32} (h : Inv I X) : PairI g (d + 3) iX10_at iX11_at [.int a, .int b] I X := by
  by_cases ha : vp_in a 6
  · obtain ⟨j, hj, rfl⟩ := vp_in_of ha (by decide)
    have tc : (nI j).toNatClampNeg = j := nI_clamp (by omega)
    obtain ⟨g1, g2⟩ := h.2.2.2.1 j hj
    refine en_X10_at (c_X10_isRow (fun _ => t_one' ?_) (fun q => absurd ha q))
    rw [tc]
    refine ⟨ha, ?_⟩
    rcases g2 with g2 | ⟨z, hz, g2, g3⟩
    · refine c_X7_lacks_m (rowA_mem hj) (g1.trans g2) ⟨fun c => absurd c (by decide), fun _ => c_X10_found 1 rfl (by decide) ?_⟩
      refine en_X11_at (c_X11_isRow (fun _ => t_one' ?_) (fun q => absurd ha q))
      have e0 : fndC I 1 131 j = (-1) := by unfold fndC; rw [set2_at, if_neg (by omega), set2_at, if_neg (by omega)]; exact g2
      rw [tc, e0]
      exact ⟨ha, fun q => absurd q m1_nle, fun _ => c_X11_meets 1 rfl (by decide) ⟨rfl, inv_found (by decide) h⟩⟩
    · refine c_X7_lacks (rowA_mem hj) (g1.trans g2) hz (fun q => t_zero ?_) (fun q => ⟨fun c => absurd c (by decide), fun _ => c_X10_found 2 rfl (by decide) ?_⟩)
      · obtain ⟨i, hi, rfl⟩ := vp_in_of q (by omega)
        have ti : (nI i).toNatClampNeg = i := nI_clamp (by omega)
        refine ⟨ha, c_X7_get (rowA_mem hj) (g1.trans g2) hz q ?_⟩
        rw [ti]
        intro I1 e1
        subst e1
        refine en_X11_at (c_X11_isRow (fun _ => t_one' ?_) (fun q => absurd ha q))
        have e0 : set2 I 1 14 (I (rowA j + 1) i) 131 j = nI z := by rw [set2_at, if_neg (by omega)]; exact g2
        rw [tc, e0]
        refine ⟨ha, fun _ => ⟨ha, c_X11_in (fun _ => t_one ?_) (fun c => absurd ((in_pred (by omega)).mpr q) c)⟩, fun c => absurd (nI_pos' (by omega)) c⟩
        refine c_X11_rowAt hj (by omega) (c_X11_tells ⟨rfl, ?_⟩)
        rw [set2_at, if_neg (by omega), ← g3 i hi]
        exact inv_asked h
      · refine en_X11_at (c_X11_isRow (fun _ => t_one' ?_) (fun q => absurd ha q))
        have e0 : fndC I 2 131 j = nI z := by unfold fndC; rw [set2_at, if_neg (by omega), set2_at, if_neg (by omega)]; exact g2
        rw [tc, e0]
        exact ⟨ha, fun _ => ⟨ha, c_X11_in (fun c => absurd ((in_pred (by omega)).mp c) q) (fun _ => t_zero (c_X11_meets 2 rfl (by decide) ⟨rfl, inv_found (by decide) h⟩))⟩, fun c => absurd (nI_pos' (by omega)) c⟩
  · exact en_X10_at (c_X10_isRow (fun q => absurd q ha) (fun _ => t_zero' (en_X11_at (c_X11_isRow (fun q => absurd q ha) (fun _ => t_zero' ⟨rfl, h⟩)))))
/-- a place of a row, on both sides -/
theorem inv_lay {j i z : Nat} {v : Int32} (hj : j < 6) (hi : i < z) (hz : z ≤ 40) (hz2 : I 131 j = nI z) (h : Inv I X) : Inv (set2 (set2 I (rowA j + 1) i v) 132 (40 * j + i) v) X := by
  obtain ⟨h1, h2, h3, h4, h5, h6⟩ := h
  have hsa : ∀ b k, ¬ ((b = rowA j + 1 ∧ k = i) ∨ (b = 132 ∧ k = 40 * j + i)) → set2 (set2 I (rowA j + 1) i v) 132 (40 * j + i) v b k = I b k := by
    intro b k hb
    rw [set2_at, if_neg (by omega), set2_at, if_neg (by omega)]
  refine ⟨h1.same (fun b k hb => hsa b k (by unfold rowA; omega)), h2.same (fun b k hb => hsa b k (by unfold rowA; omega)), h3, ?_, h5.same (fun b k hb => hsa b k (by unfold rowA; omega)), h6.same (fun b k hb => hsa b k (by unfold rowA; omega))⟩
  intro r hr
  obtain ⟨g1, g2⟩ := h4 r hr
  have f1 := hsa 131 r (by unfold rowA; omega)
  have f2 := hsa (rowA r) 1 (by unfold rowA; omega)
  refine ⟨by rw [f1, f2]; exact g1, ?_⟩
  rw [f1]
  rcases g2 with g2 | ⟨z', q1, q2, q3⟩
  · exact Or.inl g2
  · refine Or.inr ⟨z', q1, q2, fun k hk => ?_⟩
    by_cases hrj : r = j ∧ k = i
    · obtain ⟨rfl, rfl⟩ := hrj
      rw [set2_at, if_neg (by unfold rowA; omega), set2_at, if_pos ⟨rfl, rfl⟩, set2_at, if_pos ⟨rfl, rfl⟩]
    · rw [hsa (rowA r + 1) k (by unfold rowA; omega), hsa 132 _ (by unfold rowA; omega)]; exact q3 k hk
theorem op_lay {a b v : Int32} (h : Inv I X) : PairI g (d + 3) iX10_lay iX11_lay [.int a, .int b, .int v] I X := by
  by_cases ha : vp_in a 6
  · obtain ⟨j, hj, rfl⟩ := vp_in_of ha (by decide)
    have tc : (nI j).toNatClampNeg = j := nI_clamp (by omega)
    obtain ⟨g1, g2⟩ := h.2.2.2.1 j hj
    refine en_X10_lay (c_X10_isRow (fun _ => t_one' ?_) (fun q => absurd ha q))
    rw [tc]
    refine ⟨ha, ?_⟩
    rcases g2 with g2 | ⟨z, hz, g2, g3⟩
    · refine c_X7_lacks_m (rowA_mem hj) (g1.trans g2) ⟨fun c => absurd c (by decide), fun _ => c_X10_found 1 rfl (by decide) ?_⟩
      refine en_X11_lay (c_X11_isRow (fun _ => t_one' ?_) (fun q => absurd ha q))
      have e0 : fndC I 1 131 j = (-1) := by unfold fndC; rw [set2_at, if_neg (by omega), set2_at, if_neg (by omega)]; exact g2
      rw [tc, e0]
      exact ⟨ha, fun q => absurd q m1_nle, fun _ => c_X11_meets 1 rfl (by decide) ⟨rfl, inv_found (by decide) h⟩⟩
    · refine c_X7_lacks (rowA_mem hj) (g1.trans g2) hz (fun q => t_zero ?_) (fun q => ⟨fun c => absurd c (by decide), fun _ => c_X10_found 2 rfl (by decide) ?_⟩)
      · obtain ⟨i, hi, rfl⟩ := vp_in_of q (by omega)
        have ti : (nI i).toNatClampNeg = i := nI_clamp (by omega)
        refine c_X7_get (rowA_mem hj) (g1.trans g2) hz q ?_
        rw [ti]
        intro I1 e1
        have h1 : I1 (rowA j) 1 = nI z := by rw [e1, set2_at, if_neg (by unfold rowA; omega)]; exact g1.trans g2
        refine c_X7_set (rowA_mem hj) h1 hz q ?_
        rw [ti]
        refine en_X11_lay (c_X11_isRow (fun _ => t_one' ?_) (fun q => absurd ha q))
        have e0 : set2 I1 (rowA j + 1) i v 131 j = nI z := by rw [set2_at, if_neg (by unfold rowA; omega), e1, set2_at, if_neg (by omega)]; exact g2
        rw [tc, e0, ix40, nI_clamp (by omega)]
        refine ⟨ha, fun _ => ⟨ha, c_X11_in (fun _ => t_one' ?_) (fun c => absurd ((in_pred (by omega)).mpr q) c)⟩, fun c => absurd (nI_pos' (by omega)) c⟩
        refine c_X11_rowAt hj (by omega) ⟨vp_in_nI (by omega) (by decide), fun I3 e3 => c_X11_tells ⟨rfl, ?_⟩⟩
        subst e3; subst e1
        have h0 := inv_lay (v := v) hj hi hz g2 h
        have h2 := inv_asked (v := I (rowA j + 1) i) h0
        have e5 : set2 (set2 I 1 14 (I (rowA j + 1) i)) (rowA j + 1) i v 132 (40 * j + i) = I (rowA j + 1) i := by
          rw [set2_at, if_neg (by unfold rowA; omega), set2_at, if_neg (by omega), g3 i hi]
        rw [e5]
        have e6 : set2 (set2 (set2 I 1 14 (I (rowA j + 1) i)) (rowA j + 1) i v) 132 (40 * j + i) v = set2 (set2 (set2 I (rowA j + 1) i v) 132 (40 * j + i) v) 1 14 (I (rowA j + 1) i) := by
          funext b k
          simp only [set2_at]
          by_cases q1 : b = 1 ∧ k = 14
          · rw [if_neg (by omega), if_neg (by unfold rowA; omega), if_pos q1, if_pos q1]
          · rw [if_neg q1, if_neg q1]
        rw [e6]
        exact h2
      · refine en_X11_lay (c_X11_isRow (fun _ => t_one' ?_) (fun q => absurd ha q))
        have e0 : fndC I 2 131 j = nI z := by unfold fndC; rw [set2_at, if_neg (by omega), set2_at, if_neg (by omega)]; exact g2
        rw [tc, e0]
        exact ⟨ha, fun _ => ⟨ha, c_X11_in (fun c => absurd ((in_pred (by omega)).mp c) q) (fun _ => t_zero' (c_X11_meets 2 rfl (by decide) ⟨rfl, inv_found (by decide) h⟩))⟩, fun c => absurd (nI_pos' (by omega)) c⟩
  · exact en_X10_lay (c_X10_isRow (fun q => absurd q ha) (fun _ => t_zero' (en_X11_lay (c_X11_isRow (fun q => absurd q ha) (fun _ => t_zero' ⟨rfl, h⟩)))))
theorem lp_X11_text {j : Nat} {v : Int32} (hj : j < 4) : ∀ (m i : Nat) (I : IT), i + m = 60 → (∀ k, k < i → I 135 (60 * j + k) = 32) →
    (∀ I', Same (fun b k => b = 135 ∧ 60 * j ≤ k ∧ k < 60 * j + 60) I I' → (∀ k, k < 60 → I' 135 (60 * j + k) = 32) → K v I' X) → SR g (d + 1) iX11_text 34 [(0, rf g 129), (1, .int (nI j)), (2, .int v), (3, .int (nI i))] I X (qI K) := by
  intro m
  induction m with
  | zero =>
    intro i I hi h0 hK
    exact rg_X11_text_34 ⟨fun _ => hK I Same.rf (fun k hk => h0 k (by omega)), fun c => absurd (show nI 60 ≤ nI i from nI_le (by omega) (by omega)) c⟩
  | succ m ih =>
    intro i I hi h0 hK
    refine rg_X11_text_34 ⟨fun c => absurd c (show ¬ nI 60 ≤ nI i from nI_ge (by omega) (by omega)), fun c => ?_⟩
    rw [ix60, nI_clamp (by omega), nI_1]
    refine ⟨vp_in_nI (by omega) (by decide), fun I2 e2 x3 e3 => ?_⟩
    subst e2; subst e3
    refine ih (i + 1) _ (by omega) (fun k hk => ?_) (fun I' hs h1 => hK I' (Same.trans (Same.set ⟨rfl, by omega, by omega⟩) hs) h1)
    rw [set2_at]
    by_cases hki : k = i
    · rw [if_pos ⟨rfl, by omega⟩]; decide
    · rw [if_neg (fun q => hki (by omega))]; exact h0 k (by omega)
theorem op_text {a b : Int32} (h : Inv I X) : PairI g (d + 3) iX10_text iX11_text [.int a, .int b] I X := by
  by_cases ha : vp_in a 4
  · obtain ⟨j, hj, rfl⟩ := vp_in_of ha (by decide)
    have tc : (nI j).toNatClampNeg = j := nI_clamp (by omega)
    refine en_X10_text (c_X10_isText (fun _ => t_one ?_) (fun q => absurd ha q))
    rw [tc]
    refine ⟨fun c1 => ⟨fun c2 => ⟨ha, ?_⟩, fun c2 => c_X10_found 5 rfl (by decide) ?_⟩, fun c1 => ?_⟩
    · obtain ⟨z, hz, rfl⟩ := i_upto (n := 60) (by decide) c2 c1
      refine c_X9_begin (textA_mem hj) rfl hz (fun I1 hs e1 e2 => ?_)
      refine en_X11_text (c_X11_isText (fun _ => t_one ⟨fun _ => ⟨fun _ => ⟨ha, fun I5 e5 => ?_⟩, fun c => absurd c2 c⟩, fun c => absurd c1 c⟩) (fun q => absurd ha q))
      subst e5
      rw [tc]
      refine lp_X11_text hj 60 0 _ (by omega) (fun k hk => by omega) (fun I2 hs2 e3 => ⟨rfl, ?_⟩)
      have hsa : ∀ b k, ¬ ((b = textA j ∧ k = 1) ∨ b = textA j + 1 ∨ (b = 134 ∧ k = j) ∨ (b = 135 ∧ 60 * j ≤ k ∧ k < 60 * j + 60)) → I2 b k = I b k := by
        intro b k hb
        rw [hs2 b k (by omega), set2_at, if_neg (by omega), hs b k (by omega)]
      obtain ⟨h1, h2, h3, h4, h5, h6⟩ := h
      refine ⟨h1.same (fun b k hb => hsa b k (by unfold textA; omega)), h2.same (fun b k hb => hsa b k (by unfold textA; omega)), h3, h4.same (fun b k hb => hsa b k (by unfold textA; omega)), ?_, h6.same (fun b k hb => hsa b k (by unfold textA; omega))⟩
      intro r hr
      by_cases hrj : r = j
      · subst hrj
        have f1 : I2 134 r = nI z := by rw [hs2 134 r (by omega), set2_at, if_pos ⟨rfl, rfl⟩]
        have f2 : I2 (textA r) 1 = nI z := by rw [hs2 _ 1 (by unfold textA; omega), set2_at, if_neg (by unfold textA; omega)]; exact e1
        refine ⟨by rw [f1, f2], Or.inr ⟨z, hz, f1, fun k hk => ?_⟩⟩
        rw [e3 k (by omega), hs2 _ k (by unfold textA; omega), set2_at, if_neg (by unfold textA; omega)]
        exact e2 k hk
      · obtain ⟨g1, g2⟩ := h5 r hr
        have f1 : I2 134 r = I 134 r := hsa 134 r (by unfold textA; omega)
        have f2 : I2 (textA r) 1 = I (textA r) 1 := hsa _ 1 (by unfold textA; omega)
        refine ⟨by rw [f1, f2]; exact g1, ?_⟩
        rw [f1]
        rcases g2 with g2 | ⟨z', q1, q2, q3⟩
        · exact Or.inl g2
        · exact Or.inr ⟨z', q1, q2, fun k hk => by rw [hsa (textA r + 1) k (by unfold textA; omega), hsa 135 _ (by unfold textA; omega)]; exact q3 k hk⟩
    · refine en_X11_text (c_X11_isText (fun _ => t_one ⟨fun _ => ⟨fun c => absurd c c2, fun _ => c_X11_meets 5 rfl (by decide) ⟨rfl, inv_found (by decide) h⟩⟩, fun c => absurd c1 c⟩) (fun q => absurd ha q))
    · exact en_X11_text (c_X11_isText (fun _ => t_one ⟨fun c => absurd c c1, fun _ => ⟨rfl, h⟩⟩) (fun q => absurd ha q))
  · exact en_X10_text (c_X10_isText (fun q => absurd q ha) (fun _ => t_zero (en_X11_text (c_X11_isText (fun q => absurd q ha) (fun _ => t_zero ⟨rfl, h⟩)))))
theorem inv_put {j i z : Nat} {v : Int32} (hj : j < 4) (hi : i < z) (hz : z ≤ 60) (h : Inv I X) : Inv (set2 (set2 I (textA j + 1) i v) 135 (60 * j + i) v) X := by
  obtain ⟨h1, h2, h3, h4, h5, h6⟩ := h
  have hsa : ∀ b k, ¬ ((b = textA j + 1 ∧ k = i) ∨ (b = 135 ∧ k = 60 * j + i)) → set2 (set2 I (textA j + 1) i v) 135 (60 * j + i) v b k = I b k := by
    intro b k hb
    rw [set2_at, if_neg (by omega), set2_at, if_neg (by omega)]
  refine ⟨h1.same (fun b k hb => hsa b k (by unfold textA; omega)), h2.same (fun b k hb => hsa b k (by unfold textA; omega)), h3, h4.same (fun b k hb => hsa b k (by unfold textA; omega)), ?_, h6.same (fun b k hb => hsa b k (by unfold textA; omega))⟩
  intro r hr
  obtain ⟨g1, g2⟩ := h5 r hr
  have f1 := hsa 134 r (by unfold textA; omega)
  have f2 := hsa (textA r) 1 (by unfold textA; omega)
  refine ⟨by rw [f1, f2]; exact g1, ?_⟩
  rw [f1]
  rcases g2 with g2 | ⟨z', q1, q2, q3⟩
  · exact Or.inl g2
  · refine Or.inr ⟨z', q1, q2, fun k hk => ?_⟩
    by_cases hrj : r = j ∧ k = i
    · obtain ⟨rfl, rfl⟩ := hrj
      rw [set2_at, if_neg (by unfold textA; omega), set2_at, if_pos ⟨rfl, rfl⟩, set2_at, if_pos ⟨rfl, rfl⟩]
    · rw [hsa (textA r + 1) k (by unfold textA; omega), hsa 135 _ (by unfold textA; omega)]; exact q3 k hk
theorem i_comm (a b : Int32) : a + b = b + a := Int32.add_comm a b
theorem op_put {a b v : Int32} (h : Inv I X) : PairI g (d + 3) iX10_put iX11_put [.int a, .int b, .int v] I X := by
  by_cases ha : vp_in a 4
  · obtain ⟨j, hj, rfl⟩ := vp_in_of ha (by decide)
    have tc : (nI j).toNatClampNeg = j := nI_clamp (by omega)
    obtain ⟨g1, g2⟩ := h.2.2.2.2.1 j hj
    refine en_X10_put (c_X10_isText (fun _ => t_one' ?_) (fun q => absurd ha q))
    rw [tc]
    refine ⟨ha, ?_⟩
    rcases g2 with g2 | ⟨z, hz, g2, g3⟩
    · refine c_X9_isThere (textA_mem hj) (fun c => absurd (by rw [g1, g2]; exact m1_lt) c) (fun _ => t_zero' (c_X10_found 1 rfl (by decide) ?_))
      refine en_X11_put (c_X11_isText (fun _ => t_one' ?_) (fun q => absurd ha q))
      have e0 : fndC I 1 134 j = (-1) := by unfold fndC; rw [set2_at, if_neg (by omega), set2_at, if_neg (by omega)]; exact g2
      rw [tc, e0]
      exact ⟨ha, fun q => absurd q m1_nle, fun _ => c_X11_meets 1 rfl (by decide) ⟨rfl, inv_found (by decide) h⟩⟩
    · refine c_X9_isThere (textA_mem hj) (fun _ => t_one' (c_X9_has (textA_mem hj) (g1.trans g2) hz (fun q => t_one' ?_) (fun q => t_zero' (c_X10_found 2 rfl (by decide) ?_)))) (fun c => absurd c (by rw [g1, g2]; exact nI_pos (by omega)))
      · obtain ⟨i, hi, rfl⟩ := vp_in_of q (by omega)
        have ti : (nI i).toNatClampNeg = i := nI_clamp (by omega)
        refine c_X9_get (textA_mem hj) (g1.trans g2) hz (fun _ => ?_) (fun q2 => absurd q q2)
        rw [ti]
        refine c_X9_set (textA_mem hj) (g1.trans g2) hz q ?_
        rw [ti]
        refine en_X11_put (c_X11_isText (fun _ => t_one' ?_) (fun q => absurd ha q))
        have e0 : set2 I (textA j + 1) i v.toInt8.toInt32 134 j = nI z := by rw [set2_at, if_neg (by unfold textA; omega)]; exact g2
        rw [tc, e0, ix60, nI_clamp (by omega)]
        refine ⟨ha, fun _ => ⟨ha, c_X11_in (fun _ => t_one' ?_) (fun c => absurd ((in_pred (by omega)).mpr q) c)⟩, fun c => absurd (nI_pos' (by omega)) c⟩
        refine ⟨vp_in_nI (by omega) (by decide), fun x ex => ⟨vp_in_nI (by omega) (by decide), fun I3 e3 => ⟨?_, ?_⟩⟩⟩
        · rw [ex, set2_at, if_neg (by unfold textA; omega), ← g3 i hi, i_comm]
        · subst e3
          rw [nar_b]
          exact inv_put hj hi hz h
      · refine en_X11_put (c_X11_isText (fun _ => t_one' ?_) (fun q => absurd ha q))
        have e0 : fndC I 2 134 j = nI z := by unfold fndC; rw [set2_at, if_neg (by omega), set2_at, if_neg (by omega)]; exact g2
        rw [tc, e0]
        exact ⟨ha, fun _ => ⟨ha, c_X11_in (fun c => absurd ((in_pred (by omega)).mp c) q) (fun _ => t_zero' (c_X11_meets 2 rfl (by decide) ⟨rfl, inv_found (by decide) h⟩))⟩, fun c => absurd (nI_pos' (by omega)) c⟩
  · exact en_X10_put (c_X10_isText (fun q => absurd q ha) (fun _ => t_zero' (en_X11_put (c_X11_isText (fun q => absurd q ha) (fun _ => t_zero' ⟨rfl, h⟩)))))
end T44
