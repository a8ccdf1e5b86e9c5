/-! ===== copy ===== -/
section T46
variable {g : OG} {d : Nat} {I : IT} {X : XT} {K : Int32 → IT → XT → Prop} {KV : IT → XT → Prop} {KL : Int64 → IT → XT → Prop}
theorem c_X7_hasSpan {a z : Nat} {i n : Int32} (ha : a ∈ rowL) (hz : I a 1 = nI z) (hz2 : z ≤ 40) (hn : 0 ≤ n) (hT : (0 ≤ i.toInt ∧ i.toInt + n.toInt ≤ z) → K 1 I X) (hF : ¬ (0 ≤ i.toInt ∧ i.toInt + n.toInt ≤ z) → K 0 I X) : CI g (d + 1) iX7_hasSpan [rf g a, .int i, .int n] I X K := by
  refine en_X7_hasSpan ha ⟨fun c => hF ?_, fun c => ⟨fun c2 => absurd hn (Int32.not_le.mpr c2), fun _ => ?_⟩⟩
  · simp only [i_lt, Int32.reduceToInt] at c; omega
  · rw [hz, span_sub (by omega) hn]
    simp only [i_lt, Int32.reduceToInt] at c
    exact ⟨fun c2 => hF (by omega), fun c2 => hT (by omega)⟩
theorem lp_X11_copy1 {r t i j n : Nat} (hr : r < 6) (hi : i + n ≤ 40) : ∀ (m k : Nat) (I : IT), k + m = n →
    (∀ I', Same (fun b _ => b = 133) I I' → (∀ q, k ≤ q → q < n → I' 133 q = I 132 (40 * r + (i + q))) → (∀ q, q < k → I' 133 q = I 133 q) → SR g (d + 2) iX11_copy 136 [(0, rf g 129), (3, .int (nI t)), (4, .int (nI j)), (5, .int (nI n)), (6, .int 0)] I' X (qI K)) →
    SR g (d + 2) iX11_copy 104 [(0, rf g 129), (1, .int (nI r)), (2, .int (nI i)), (3, .int (nI t)), (4, .int (nI j)), (5, .int (nI n)), (6, .int (nI k))] I X (qI K) := by
  intro m
  induction m with
  | zero =>
    intro k I hk hK
    exact rg_X11_copy_104 ⟨fun _ => hK I Same.rf (fun q h1 h2 => by omega) (fun q hq => rfl), fun c => absurd (nI_le (by omega) (by omega)) c⟩
  | succ m ih =>
    intro k I hk hK
    refine rg_X11_copy_104 ⟨fun c => absurd c (nI_ge (by omega) (by omega)), fun c => ?_⟩
    rw [nI_add, nI_1, nI_clamp (by omega)]
    refine c_X11_rowAt hr (by omega) ⟨vp_in_nI (by omega) (by decide), fun I5 e5 x6 e6 => ?_⟩
    subst e5; subst e6
    refine ih (k + 1) _ (by omega) (fun I' hs h1 h2 => hK I' (Same.trans (Same.set rfl) hs) (fun q q1 q2 => ?_) (fun q hq => ?_))
    · by_cases hqk : q = k
      · subst hqk
        rw [h2 q (by omega), set2_at, if_pos ⟨rfl, rfl⟩]
      · rw [h1 q (by omega) q2, set2_at, if_neg (by omega)]
    · rw [h2 q (by omega), set2_at, if_neg (by omega)]
theorem lp_X11_copy2 {t j n : Nat} (ht : t < 6) (hj : j + n ≤ 40) : ∀ (m k : Nat) (I : IT), k + m = n →
    (∀ I', Same (fun b q => b = 132 ∧ 40 * t + (j + k) ≤ q ∧ q < 40 * t + (j + n)) I I' → (∀ q, k ≤ q → q < n → I' 132 (40 * t + (j + q)) = I 133 q) → K 1 I' X) →
    SR g (d + 2) iX11_copy 136 [(0, rf g 129), (3, .int (nI t)), (4, .int (nI j)), (5, .int (nI n)), (6, .int (nI k))] I X (qI K) := by
  intro m
  induction m with
  | zero =>
    intro k I hk hK
    exact rg_X11_copy_136 ⟨fun _ => hK I Same.rf (fun q h1 h2 => by omega), fun c => absurd (nI_le (by omega) (by omega)) c⟩
  | succ m ih =>
    intro k I hk hK
    refine rg_X11_copy_136 ⟨fun c => absurd c (nI_ge (by omega) (by omega)), fun c => ?_⟩
    rw [ix40, nI_add, nI_1, nI_clamp (by omega), nI_clamp (by omega)]
    refine ⟨vp_in_nI (by omega) (by decide), vp_in_nI (by omega) (by decide), fun I5 e5 x6 e6 => ?_⟩
    subst e5; subst e6
    refine ih (k + 1) _ (by omega) (fun I' hs h1 => hK I' (Same.trans (Same.set ⟨rfl, by omega, by omega⟩) (hs.weak (fun b q hb => ⟨hb.1, by omega, hb.2.2⟩))) (fun q q1 q2 => ?_))
    by_cases hqk : q = k
    · subst hqk
      rw [hs 132 _ (by omega), set2_at, if_pos ⟨rfl, by omega⟩]
    · rw [h1 q (by omega) q2, set2_at, if_neg (by omega)]
theorem setRow_at (I : IT) (a : Nat) (f : Nat → Int32) (b k : Nat) : setRow I a f b k = if b = a then f k else I b k := by
  unfold setRow
  by_cases h : b = a
  · rw [if_pos h, if_pos h]
  · rw [if_neg h, if_neg h]
/-- the model's copy, by what its two rows are -/
theorem c_X11_copy {r' t' : Nat} {i j n : Int32} {J : IT} (hr6 : r' < 6) (ht6 : t' < 6) (hsr : J 131 r' = (-1) ∨ ∃ z, z ≤ 40 ∧ J 131 r' = nI z) (hst : J 131 t' = (-1) ∨ ∃ z, z ≤ 40 ∧ J 131 t' = nI z)
    (m5 : ¬ 0 ≤ n → K (-3) (fndM J 5) X) (m1 : 0 ≤ n → (J 131 r' = (-1) ∨ J 131 t' = (-1)) → K (-3) (fndM J 1) X)
    (m2 : 0 ≤ n → ∀ z z', J 131 r' = nI z → J 131 t' = nI z' → z ≤ 40 → z' ≤ 40 → ¬ ((0 ≤ i.toInt ∧ i.toInt + n.toInt ≤ z) ∧ 0 ≤ j.toInt ∧ j.toInt + n.toInt ≤ z') → K (-3) (fndM J 2) X)
    (ok : 0 ≤ n → ∀ z z', J 131 r' = nI z → J 131 t' = nI z' → z ≤ 40 → z' ≤ 40 → ((0 ≤ i.toInt ∧ i.toInt + n.toInt ≤ z) ∧ 0 ≤ j.toInt ∧ j.toInt + n.toInt ≤ z') → SR g (d + 3) iX11_copy 104 [(0, rf g 129), (1, .int (nI r')), (2, .int i), (3, .int (nI t')), (4, .int j), (5, .int n), (6, .int 0)] J X (qI K)) :
    CI g (d + 3) iX11_copy [rf g 129, .int (nI r'), .int i, .int (nI t'), .int j, .int n] J X K := by
  have hr : vp_in (nI r') 6 := vp_in_nI hr6 (by decide)
  have ht : vp_in (nI t') 6 := vp_in_nI ht6 (by decide)
  have tr : (nI r').toNatClampNeg = r' := nI_clamp (by omega)
  have tt : (nI t').toNatClampNeg = t' := nI_clamp (by omega)
  refine en_X11_copy (c_X11_isRow (fun _ => t_one (c_X11_isRow (fun _ => t_one' ?_) (fun q => absurd ht q))) (fun q => absurd hr q))
  rw [tr, tt]
  have z1 : J 131 r' < 0 → J 131 r' = (-1) := fun c => by
    rcases hsr with e | ⟨z, hz, e⟩
    · exact e
    · rw [e] at c; exact absurd c (nI_pos (by omega))
  have z2 : ¬ 0 ≤ J 131 t' → J 131 t' = (-1) := fun c => by
    rcases hst with e | ⟨z, hz, e⟩
    · exact e
    · rw [e] at c; exact absurd (nI_pos' (by omega)) c
  refine ⟨fun c0 => ⟨hr, fun c1 => c_X11_meets 1 rfl (by decide) (m1 c0 (Or.inl (z1 c1))), fun c1 => ⟨ht, fun c2 => ?_, fun c2 => c_X11_meets 1 rfl (by decide) (m1 c0 (Or.inr (z2 c2)))⟩⟩, fun c0 => c_X11_meets 5 rfl (by decide) (m5 c0)⟩
  obtain ⟨z, hz, e1⟩ : ∃ z, z ≤ 40 ∧ J 131 r' = nI z := by
    rcases hsr with e | q
    · rw [e] at c1; exact absurd m1_lt c1
    · exact q
  obtain ⟨z', hz', e2⟩ : ∃ z, z ≤ 40 ∧ J 131 t' = nI z := by
    rcases hst with e | q
    · rw [e] at c2; exact absurd c2 m1_nle
    · exact q
  have n0 : (0 : Int) ≤ n.toInt := by simpa [i_le, Int32.reduceToInt] using c0
  rw [e1, e2, cmp_gt, cmp_le, l_add, l_add, Int32.toInt_toInt64, Int32.toInt_toInt64, nI_toInt (n := z) (by omega), nI_toInt (n := z') (by omega)]
  simp only [i_lt, Int32.reduceToInt]
  exact ⟨fun c3 => c_X11_meets 2 rfl (by decide) (m2 c0 z z' e1 e2 hz hz' (by omega)), fun c3 => ⟨fun c4 => c_X11_meets 2 rfl (by decide) (m2 c0 z z' e1 e2 hz hz' (by omega)), fun c4 => ⟨hr, fun c5 => c_X11_meets 2 rfl (by decide) (m2 c0 z z' e1 e2 hz hz' (by omega)), fun c5 => ⟨ht, fun c6 => ok c0 z z' e1 e2 hz hz' (by omega), fun c6 => c_X11_meets 2 rfl (by decide) (m2 c0 z z' e1 e2 hz hz' (by omega))⟩⟩⟩⟩
theorem nI_of0 {x : Int32} {n : Nat} (hn : n < 2 ^ 31) (h0 : 0 ≤ x.toInt) (h1 : x.toInt ≤ n) : ∃ j, j ≤ n ∧ x = nI j :=
  i_upto hn (by simpa [i_le, Int32.reduceToInt] using h0) (by rw [i_le, nI_toInt hn]; exact h1)
theorem op_copy {r i t j n : Int32} (h : Inv I X) : PairI g (d + 3) iX10_copy iX11_copy [.int r, .int i, .int t, .int j, .int n] I X := by
  by_cases hr : vp_in r 6
  · by_cases ht : vp_in t 6
    · obtain ⟨r', hr6, rfl⟩ := vp_in_of hr (by decide)
      obtain ⟨t', ht6, rfl⟩ := vp_in_of ht (by decide)
      have tr : (nI r').toNatClampNeg = r' := nI_clamp (by omega)
      have tt : (nI t').toNatClampNeg = t' := nI_clamp (by omega)
      have h4 := h.2.2.2.1
      obtain ⟨g1, g2⟩ := h4 r' hr6
      obtain ⟨k1, k2⟩ := h4 t' ht6
      have fc : ∀ f b, b < 6 → fndC I f 131 b = I 131 b := fun f b hb => by unfold fndC; rw [set2_at, if_neg (by omega), set2_at, if_neg (by omega)]
      have s1 : I 131 r' = (-1) ∨ ∃ z, z ≤ 40 ∧ I 131 r' = nI z := by
        rcases g2 with e | ⟨z, hz, e, -⟩
        · exact Or.inl e
        · exact Or.inr ⟨z, hz, e⟩
      have s2 : I 131 t' = (-1) ∨ ∃ z, z ≤ 40 ∧ I 131 t' = nI z := by
        rcases k2 with e | ⟨z, hz, e, -⟩
        · exact Or.inl e
        · exact Or.inr ⟨z, hz, e⟩
      have bad : ∀ {z : Nat} {x : Int32}, z ≤ 40 → x = nI z → x = (-1) → False := fun hz e1 e2 => by
        have := nI_toInt (n := _) (show _ < 2 ^ 31 from Nat.lt_of_le_of_lt hz (by decide))
        rw [← e1, e2] at this
        have e3 : ((-1) : Int32).toInt = -1 := by decide
        rw [e3] at this
        omega
      refine en_X10_copy (c_X10_isRow (fun _ => t_one (c_X10_isRow (fun _ => t_one' ?_) (fun q => absurd ht q))) (fun q => absurd hr q))
      rw [tr, tt]
      refine ⟨fun c0 => ⟨hr, c_X7_isThere (rowA_mem hr6) (fun c1 => t_one ⟨ht, c_X7_isThere (rowA_mem ht6) (fun c2 => t_one' ?_) (fun c2 => t_zero' (c_X10_found 1 rfl (by decide) ?_))⟩) (fun c1 => t_zero (c_X10_found 1 rfl (by decide) ?_))⟩, fun c0 => c_X10_found 5 rfl (by decide) ?_⟩
      · rw [g1] at c1
        rw [k1] at c2
        rcases g2 with e | ⟨z, hz, e1, f1⟩
        · rw [e] at c1; exact absurd m1_lt c1
        rcases k2 with e | ⟨z', hz', e2, f2⟩
        · rw [e] at c2; exact absurd m1_lt c2
        have uq : ∀ {x y : Nat}, x ≤ 40 → y ≤ 40 → nI x = nI y → x = y := fun hx hy e => (nI_eq (by omega) (by omega)).mp e
        refine ⟨hr, c_X7_hasSpan (rowA_mem hr6) (g1.trans e1) hz c0 (fun p1 => t_one ⟨ht, c_X7_hasSpan (rowA_mem ht6) (k1.trans e2) hz' c0 (fun p2 => t_one' ⟨hr, ht, ?_⟩) (fun p2 => t_zero' (c_X10_found 2 rfl (by decide) ?_))⟩) (fun p1 => t_zero (c_X10_found 2 rfl (by decide) ?_))⟩
        · have n0 : (0 : Int) ≤ n.toInt := by simpa [i_le, Int32.reduceToInt] using c0
          obtain ⟨i', hi', rfl⟩ := nI_of0 (x := i) (n := 40) (by decide) p1.1 (by omega)
          obtain ⟨j', hj', rfl⟩ := nI_of0 (x := j) (n := 40) (by decide) p2.1 (by omega)
          obtain ⟨n', hn', rfl⟩ := nI_of0 (x := n) (n := 40) (by decide) n0 (by have := p1.1; omega)
          rw [nI_toInt (by omega), nI_toInt (by omega)] at p1 p2
          rw [nI_clamp (n := i') (by omega), nI_clamp (n := j') (by omega), nI_clamp (n := n') (by omega)]
          refine ⟨⟨⟨nI_pos (by omega), nI_pos (by omega), nI_pos (by omega)⟩, by omega, by omega⟩, fun I1 e1' => ?_⟩
          have hI1 : ∀ b k, b ≠ rowA t' + 1 → I1 b k = I b k := fun b k hb => by rw [e1', setRow_at, if_neg hb]
          have q1 : I1 131 r' = nI z := (hI1 131 r' (by unfold rowA; omega)).trans e1
          have q2 : I1 131 t' = nI z' := (hI1 131 t' (by unfold rowA; omega)).trans e2
          refine c_X11_copy hr6 ht6 (Or.inr ⟨z, hz, q1⟩) (Or.inr ⟨z', hz', q2⟩) (fun c => absurd c0 c) (fun _ c => c.elim (fun e => (bad hz q1 e).elim) (fun e => (bad hz' q2 e).elim)) (fun _ y y' a1 a2 hy hy' c => ?_) (fun _ y y' a1 a2 hy hy' c => ?_)
          · exfalso
            have u1 := uq hy hz (a1.symm.trans q1)
            have u2 := uq hy' hz' (a2.symm.trans q2)
            subst u1; subst u2
            rw [nI_toInt (by omega), nI_toInt (by omega), nI_toInt (by omega)] at c
            omega
          · refine lp_X11_copy1 hr6 (by omega) n' 0 I1 (by omega) (fun I2 hs2 h2 _ => lp_X11_copy2 ht6 (by omega) n' 0 I2 (by omega) (fun I3 hs3 h3 => ⟨rfl, ?_⟩))
            have hsa : ∀ b k, ¬ (b = rowA t' + 1 ∨ b = 133 ∨ (b = 132 ∧ 40 * t' + j' ≤ k ∧ k < 40 * t' + (j' + n'))) → I3 b k = I b k := by
              intro b k hb
              rw [hs3 b k (by omega), hs2 b k (by omega), hI1 b k (by omega)]
            obtain ⟨x1, x2, x3, x4, x5, x6⟩ := h
            refine ⟨x1.same (fun b k hb => hsa b k (by unfold rowA; omega)), x2.same (fun b k hb => hsa b k (by unfold rowA; omega)), x3, ?_, x5.same (fun b k hb => hsa b k (by unfold rowA; omega)), x6.same (fun b k hb => hsa b k (by unfold rowA; omega))⟩
            intro y hy
            obtain ⟨y1, y2⟩ := x4 y hy
            have w1 := hsa 131 y (by unfold rowA; omega)
            have w2 := hsa (rowA y) 1 (by unfold rowA; omega)
            refine ⟨by rw [w1, w2]; exact y1, ?_⟩
            rw [w1]
            rcases y2 with y2 | ⟨zy, u1, u2, u3⟩
            · exact Or.inl y2
            · refine Or.inr ⟨zy, u1, u2, fun k hk => ?_⟩
              by_cases hyt : y = t'
              · subst hyt
                have hzy : zy = z' := uq u1 hz' (u2.symm.trans e2)
                subst hzy
                have w3 : I3 (rowA y + 1) k = va_cpy (I (rowA r' + 1)) (I (rowA y + 1)) i' j' n' k := by
                  rw [hs3 _ k (by unfold rowA; omega), hs2 _ k (by unfold rowA; omega), e1', setRow_at, if_pos rfl]
                rw [w3]
                by_cases hin : j' ≤ k ∧ k < j' + n'
                · rw [pk_cpy_in hin.1 hin.2]
                  have w4 := h3 (k - j') (by omega) (by omega)
                  rw [show 40 * y + (j' + (k - j')) = 40 * y + k by omega] at w4
                  rw [w4, h2 (k - j') (by omega) (by omega), hI1 132 _ (by unfold rowA; omega)]
                  exact f1 (i' + (k - j')) (by omega)
                · rw [pk_cpy_out (by omega), hsa 132 _ (by unfold rowA; omega)]
                  exact u3 k hk
              · rw [hsa (rowA y + 1) k (by unfold rowA; omega), hsa 132 _ (by unfold rowA; omega)]
                exact u3 k hk
        · have q1 : fndC I 2 131 r' = nI z := (fc 2 r' hr6).trans e1
          have q2 : fndC I 2 131 t' = nI z' := (fc 2 t' ht6).trans e2
          refine c_X11_copy hr6 ht6 (Or.inr ⟨z, hz, q1⟩) (Or.inr ⟨z', hz', q2⟩) (fun c => absurd c0 c) (fun _ c => c.elim (fun e => (bad hz q1 e).elim) (fun e => (bad hz' q2 e).elim)) (fun _ y y' a1 a2 hy hy' c => ⟨rfl, inv_found (by decide) h⟩) (fun _ y y' a1 a2 hy hy' c => ?_)
          exfalso
          have u1 := uq hy hz (a1.symm.trans q1)
          have u2 := uq hy' hz' (a2.symm.trans q2)
          subst u1; subst u2
          exact p2 c.2
        · have q1 : fndC I 2 131 r' = nI z := (fc 2 r' hr6).trans e1
          have q2 : fndC I 2 131 t' = nI z' := (fc 2 t' ht6).trans e2
          refine c_X11_copy hr6 ht6 (Or.inr ⟨z, hz, q1⟩) (Or.inr ⟨z', hz', q2⟩) (fun c => absurd c0 c) (fun _ c => c.elim (fun e => (bad hz q1 e).elim) (fun e => (bad hz' q2 e).elim)) (fun _ y y' a1 a2 hy hy' c => ⟨rfl, inv_found (by decide) h⟩) (fun _ y y' a1 a2 hy hy' c => ?_)
          exfalso
          have u1 := uq hy hz (a1.symm.trans q1)
          subst u1
          exact p1 c.1
      · rw [k1] at c2
        have e2 : I 131 t' = (-1) := by
          rcases s2 with e | ⟨z, hz, e⟩
          · exact e
          · rw [e] at c2; exact absurd c2 (nI_pos (by omega))
        refine c_X11_copy hr6 ht6 (by rw [fc 1 r' hr6]; exact s1) (by rw [fc 1 t' ht6]; exact s2) (fun c => absurd c0 c) (fun _ _ => ⟨rfl, inv_found (by decide) h⟩) (fun _ y y' a1 a2 hy hy' c => ?_) (fun _ y y' a1 a2 hy hy' c => ?_)
        · exact (bad hy' a2 ((fc 1 t' ht6).trans e2)).elim
        · exact (bad hy' a2 ((fc 1 t' ht6).trans e2)).elim
      · rw [g1] at c1
        have e2 : I 131 r' = (-1) := by
          rcases s1 with e | ⟨z, hz, e⟩
          · exact e
          · rw [e] at c1; exact absurd c1 (nI_pos (by omega))
        refine c_X11_copy hr6 ht6 (by rw [fc 1 r' hr6]; exact s1) (by rw [fc 1 t' ht6]; exact s2) (fun c => absurd c0 c) (fun _ _ => ⟨rfl, inv_found (by decide) h⟩) (fun _ y y' a1 a2 hy hy' c => ?_) (fun _ y y' a1 a2 hy hy' c => ?_)
        · exact (bad hy a1 ((fc 1 r' hr6).trans e2)).elim
        · exact (bad hy a1 ((fc 1 r' hr6).trans e2)).elim
      · exact c_X11_copy hr6 ht6 (by rw [fc 5 r' hr6]; exact s1) (by rw [fc 5 t' ht6]; exact s2) (fun _ => ⟨rfl, inv_found (by decide) h⟩) (fun c => absurd c c0) (fun c => absurd c c0) (fun c => absurd c c0)
    · refine en_X10_copy (c_X10_isRow (fun _ => t_one (c_X10_isRow (fun q => absurd q ht) (fun _ => t_zero' ?_))) (fun q => absurd hr q))
      exact en_X11_copy (c_X11_isRow (fun _ => t_one (c_X11_isRow (fun q => absurd q ht) (fun _ => t_zero' ⟨rfl, h⟩))) (fun q => absurd hr q))
  · exact en_X10_copy (c_X10_isRow (fun q => absurd q hr) (fun _ => t_zero (en_X11_copy (c_X11_isRow (fun q => absurd q hr) (fun _ => t_zero ⟨rfl, h⟩)))))
end T46
