/-! ===== row, lay, at, tear, text, put ===== -/
/-- the class's call, then the model's: the same answer, and what held holds -/
abbrev PairI (g : OG) (d : Nat) (mc mm : MI) (args : List Value) (I : IT) (X : XT) : Prop := CI g d mc (rf g 1 :: args) I X (fun r I1 X1 => CI g d mm (rf g 129 :: args) I1 X1 (fun r' I2 X2 => r' = r ∧ Inv I2 X2))
abbrev PairL (g : OG) (d : Nat) (mc mm : MI) (args : List Value) (I : IT) (X : XT) : Prop := CL g d mc (rf g 1 :: args) I X (fun r I1 X1 => CL g d mm (rf g 129 :: args) I1 X1 (fun r' I2 X2 => r' = r ∧ Inv I2 X2))
theorem ix40 (j i : Nat) : 40 * nI j + nI i = nI (40 * j + i) := by
  show nI 40 * nI j + nI i = _
  rw [pk_mul, nI_add]
theorem ix60 (j i : Nat) : 60 * nI j + nI i = nI (60 * j + i) := by
  show nI 60 * nI j + nI i = _
  rw [pk_mul, nI_add]
theorem ix18 (j i : Nat) : 18 * nI j + nI i = nI (18 * j + i) := by
  show nI 18 * nI j + nI i = _
  rw [pk_mul, nI_add]
theorem rowA_mem {j : Nat} (h : j < 6) : rowA j ∈ rowL := (row_el_all j h).2.1
theorem textA_mem {j : Nat} (h : j < 4) : textA j ∈ textL := (text_el_all j h).2.1
/-- a number that is not negative and at most n -/
theorem i_upto {b : Int32} {n : Nat} (hn : n < 2 ^ 31) (h1 : 0 ≤ b) (h2 : b ≤ nI n) : ∃ z, z ≤ n ∧ b = nI z := nI_of2 (nI_toInt hn) (Int32.not_lt.mpr h1) h2
section T43
variable {g : OG} {d : Nat} {I : IT} {X : XT} {K : Int32 → IT → XT → Prop} {KV : IT → XT → Prop}
theorem lp_X11_row {j : Nat} {v : Int32} (hj : j < 6) : ∀ (m i : Nat) (I : IT), i + m = 40 → (∀ k, k < i → I 132 (40 * j + k) = 0) →
    (∀ I', Same (fun b k => b = 132 ∧ 40 * j ≤ k ∧ k < 40 * j + 40) I I' → (∀ k, k < 40 → I' 132 (40 * j + k) = 0) → K v I' X) → SR g (d + 1) iX11_row 34 [(0, rf g 129), (1, .int (nI j)), (2, .int v), (3, .int (nI i))] I X (qI K) := by
  intro m
  induction m with
  | zero =>
    intro i I hi h0 hK
    exact rg_X11_row_34 ⟨fun _ => hK I Same.rf (fun k hk => h0 k (by omega)), fun c => absurd (show nI 40 ≤ nI i from nI_le (by omega) (by omega)) c⟩
  | succ m ih =>
    intro i I hi h0 hK
    refine rg_X11_row_34 ⟨fun c => absurd c (show ¬ nI 40 ≤ nI i from nI_ge (by omega) (by omega)), fun c => ?_⟩
    rw [ix40, nI_clamp (by omega), nI_1]
    refine ⟨vp_in_nI (by omega) (by decide), fun I2 e2 x3 e3 => ?_⟩
    subst e2; subst e3
    refine ih (i + 1) _ (by omega) (fun k hk => ?_) (fun I' hs h1 => hK I' (Same.trans (Same.set ⟨rfl, by omega, by omega⟩) hs) h1)
    rw [set2_at]
    by_cases hki : k = i
    · rw [if_pos ⟨rfl, by omega⟩]
    · rw [if_neg (fun q => hki (by omega))]; exact h0 k (by omega)
theorem op_row {a b : Int32} (h : Inv I X) : PairI g (d + 3) iX10_row iX11_row [.int a, .int b] I X := by
  by_cases ha : vp_in a 6
  · obtain ⟨j, hj, rfl⟩ := vp_in_of ha (by decide)
    have tc : (nI j).toNatClampNeg = j := nI_clamp (by omega)
    refine en_X10_row (c_X10_isRow (fun _ => t_one ?_) (fun q => absurd ha q))
    rw [tc]
    refine ⟨fun c1 => ⟨fun c2 => ⟨ha, ?_⟩, fun c2 => c_X10_found 5 rfl (by decide) ?_⟩, fun c1 => ?_⟩
    · obtain ⟨z, hz, rfl⟩ := i_upto (n := 40) (by decide) c2 c1
      refine c_X7_begin (rowA_mem hj) rfl hz (fun I1 hs e1 e2 => ?_)
      refine en_X11_row (c_X11_isRow (fun _ => t_one ⟨fun _ => ⟨fun _ => ⟨ha, fun I5 e5 => ?_⟩, fun c => absurd c2 c⟩, fun c => absurd c1 c⟩) (fun q => absurd ha q))
      subst e5
      rw [tc]
      refine lp_X11_row hj 40 0 _ (by omega) (fun k hk => by omega) (fun I2 hs2 e3 => ⟨rfl, ?_⟩)
      have hsa : ∀ b k, ¬ ((b = rowA j ∧ k = 1) ∨ b = rowA j + 1 ∨ (b = 131 ∧ k = j) ∨ (b = 132 ∧ 40 * j ≤ k ∧ k < 40 * j + 40)) → I2 b k = I b k := by
        intro b k hb
        rw [hs2 b k (by omega), set2_at, if_neg (by omega), hs b k (by omega)]
      obtain ⟨h1, h2, h3, h4, h5, h6⟩ := h
      refine ⟨h1.same (fun b k hb => hsa b k (by unfold rowA; omega)), h2.same (fun b k hb => hsa b k (by unfold rowA; omega)), h3, ?_, h5.same (fun b k hb => hsa b k (by unfold rowA; omega)), h6.same (fun b k hb => hsa b k (by unfold rowA; omega))⟩
      intro r hr
      by_cases hrj : r = j
      · subst hrj
        have f1 : I2 131 r = nI z := by rw [hs2 131 r (by omega), set2_at, if_pos ⟨rfl, rfl⟩]
        have f2 : I2 (rowA r) 1 = nI z := by rw [hs2 _ 1 (by unfold rowA; omega), set2_at, if_neg (by unfold rowA; omega)]; exact e1
        refine ⟨by rw [f1, f2], Or.inr ⟨z, hz, f1, fun k hk => ?_⟩⟩
        rw [e3 k (by omega), hs2 _ k (by unfold rowA; omega), set2_at, if_neg (by unfold rowA; omega)]
        exact e2 k hk
      · obtain ⟨g1, g2⟩ := h4 r hr
        have f1 : I2 131 r = I 131 r := hsa 131 r (by unfold rowA; omega)
        have f2 : I2 (rowA r) 1 = I (rowA r) 1 := hsa _ 1 (by unfold rowA; omega)
        refine ⟨by rw [f1, f2]; exact g1, ?_⟩
        rw [f1]
        rcases g2 with g2 | ⟨z', q1, q2, q3⟩
        · exact Or.inl g2
        · exact Or.inr ⟨z', q1, q2, fun k hk => by rw [hsa (rowA r + 1) k (by unfold rowA; omega), hsa 132 _ (by unfold rowA; omega)]; exact q3 k hk⟩
    · refine en_X11_row (c_X11_isRow (fun _ => t_one ⟨fun _ => ⟨fun c => absurd c c2, fun _ => c_X11_meets 5 rfl (by decide) ⟨rfl, inv_found (by decide) h⟩⟩, fun c => absurd c1 c⟩) (fun q => absurd ha q))
    · exact en_X11_row (c_X11_isRow (fun _ => t_one ⟨fun c => absurd c c1, fun _ => ⟨rfl, h⟩⟩) (fun q => absurd ha q))
  · exact en_X10_row (c_X10_isRow (fun q => absurd q ha) (fun _ => t_zero (en_X11_row (c_X11_isRow (fun q => absurd q ha) (fun _ => t_zero ⟨rfl, h⟩)))))
theorem op_tear {a : Int32} (h : Inv I X) : PairI g (d + 3) iX10_tear iX11_tear [.int a] I X := by
  by_cases ha : vp_in a 6
  · obtain ⟨j, hj, rfl⟩ := vp_in_of ha (by decide)
    have tc : (nI j).toNatClampNeg = j := nI_clamp (by omega)
    obtain ⟨g1, g2⟩ := h.2.2.2.1 j hj
    refine en_X10_tear (c_X10_isRow (fun _ => t_one' ?_) (fun q => absurd ha q))
    rw [tc]
    refine ⟨ha, c_X7_isThere (rowA_mem hj) (fun c => t_one' ⟨ha, en_X7_end (rowA_mem hj) (fun I1 e1 => ?_)⟩) (fun c => t_zero' (c_X10_found 1 rfl (by decide) ?_))⟩
    · rw [g1] at c
      refine en_X11_tear (c_X11_isRow (fun _ => t_one' ?_) (fun q => absurd ha q))
      rw [tc]
      have e0 : I1 131 j = I 131 j := by rw [e1, set2_at, if_neg (by unfold rowA; omega)]
      rw [e0]
      refine ⟨ha, fun _ => ⟨ha, fun I6 e6 => ⟨rfl, ?_⟩⟩, fun q => absurd (Int32.not_lt.mp c) q⟩
      subst e1; subst e6
      have hsa : ∀ b k, ¬ ((b = rowA j ∧ k = 1) ∨ (b = 131 ∧ k = j)) → set2 (set2 I (rowA j) 1 (-1)) 131 j (-1) b k = I b k := by
        intro b k hb
        rw [set2_at, if_neg (by omega), set2_at, if_neg (by omega)]
      obtain ⟨h1, h2, h3, h4, h5, h6⟩ := h
      refine ⟨h1.same (fun b k hb => hsa b k (by unfold rowA; omega)), h2.same (fun b k hb => hsa b k (by unfold rowA; omega)), h3, ?_, h5.same (fun b k hb => hsa b k (by unfold rowA; omega)), h6.same (fun b k hb => hsa b k (by unfold rowA; omega))⟩
      intro r hr
      by_cases hrj : r = j
      · subst hrj
        refine ⟨?_, Or.inl ?_⟩
        · rw [set2_at, if_neg (by unfold rowA; omega), set2_at, if_pos ⟨rfl, rfl⟩, set2_at, if_pos ⟨rfl, rfl⟩]
        · rw [set2_at, if_pos ⟨rfl, rfl⟩]
      · obtain ⟨g1, g2⟩ := h4 r hr
        have f1 := hsa 131 r (by unfold rowA; omega)
        have f2 := hsa (rowA r) 1 (by unfold rowA; omega)
        refine ⟨by rw [f1, f2]; exact g1, ?_⟩
        rw [f1]
        rcases g2 with g2 | ⟨z', q1, q2, q3⟩
        · exact Or.inl g2
        · exact Or.inr ⟨z', q1, q2, fun k hk => by rw [hsa (rowA r + 1) k (by unfold rowA; omega), hsa 132 _ (by unfold rowA; omega)]; exact q3 k hk⟩
    · rw [g1] at c
      refine en_X11_tear (c_X11_isRow (fun _ => t_one' ?_) (fun q => absurd ha q))
      rw [tc]
      have e0 : fndC I 1 131 j = I 131 j := by unfold fndC; rw [set2_at, if_neg (by omega), set2_at, if_neg (by omega)]
      rw [e0]
      exact ⟨ha, fun q => absurd (Int32.not_lt.mpr q) (fun z => z c), fun _ => c_X11_meets 1 rfl (by decide) ⟨rfl, inv_found (by decide) h⟩⟩
  · exact en_X10_tear (c_X10_isRow (fun q => absurd q ha) (fun _ => t_zero' (en_X11_tear (c_X11_isRow (fun q => absurd q ha) (fun _ => t_zero' ⟨rfl, h⟩)))))
end T43
