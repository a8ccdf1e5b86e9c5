/-! ===== village ===== -/
def stF (m : Nat) (hd : Nat → Nat) (k : Nat) : Nat := if k < m then hd (4 * k + 1) else if 5 ≤ k ∧ k < 5 + m then hd (4 * (k - 5) + 2) else 0
section T88
variable {g : OG} {d : Nat} {I : IT} {X : XT} {K : Int32 → IT → XT → Prop} {KV : IT → XT → Prop}
variable {z w m p t : Nat} {G : Nat → Int32} {hd wd : Nat → Nat}
theorem stF_hi {k : Nat} (hm : m ≤ 5) (h : 10 ≤ k) : stF m hd k = 0 := by
  unfold stF
  rw [if_neg (by omega), if_neg (by omega)]
theorem stF_lo {k : Nat} (h : k < m) : stF m hd k = hd (4 * k + 1) := if_pos h
theorem stF_mid {k : Nat} (hm : m ≤ 5) (h : k < m) : stF m hd (5 + k) = hd (4 * k + 2) := by
  unfold stF
  rw [if_neg (by omega), if_pos (by omega), show 5 + k - 5 = k by omega]
theorem stF_step {i k : Nat} (e1 : ¬ k = 5 + i) (e2 : ¬ k = i) : stF i hd k = stF (i + 1) hd k := by
  unfold stF
  by_cases c1 : k < i
  · rw [if_pos c1, if_pos (show k < i + 1 by omega)]
  · rw [if_neg c1, if_neg (show ¬ k < i + 1 by omega)]
    by_cases c2 : 5 ≤ k ∧ k < 5 + i
    · rw [if_pos c2, if_pos (show 5 ≤ k ∧ k < 5 + (i + 1) by omega)]
    · rw [if_neg c2, if_neg (show ¬ (5 ≤ k ∧ k < 5 + (i + 1)) by omega)]
theorem bset_z {F : Nat → Nat} : ∀ n, (∀ h, h < n → F (10 + h) = 0) → bset F n = 0
  | 0, _ => rfl
  | n + 1, h => by
    show bset F n + (if F (10 + n) = 1 then 2 ^ n else 0) = 0
    rw [bset_z n (fun k hk => h k (by omega)), h n (by omega)]
    rfl
theorem stF_WF (hm : m ≤ 5) (hb : ∀ h, h < m → HB hd h) : WF m (stF m hd) 0 := by
  refine ⟨fun h hh => ?_, ?_, ?_, ?_, fun k hk => ?_⟩
  · rw [stF_lo hh, stF_mid hm hh, stF_hi hm (by omega)]
    have := hb h hh
    unfold HB at this
    omega
  · rw [stF_hi hm (by omega)]; omega
  · rw [stF_hi hm (by omega)]; omega
  · rw [stF_hi hm (by omega)]; omega
  · unfold stF
    split
    · rename_i c
      have := hb k c
      unfold HB at this
      omega
    · split
      · rename_i c
        have := hb (k - 5) (by omega)
        unfold HB at this
        omega
      · omega
theorem CLR.FR (hc : CLR I 24 30 m w hd wd) : FR I 30 m (stF m hd) := by
  obtain ⟨c1, c2, c3, c4, c5, c6, c7, c8, c9, c10⟩ := hc
  refine ⟨fun h hh => ?_, ?_, ?_, ?_, ?_⟩
  · obtain ⟨⟨a1, a2, a3, a4⟩, a5⟩ := c5 h hh
    rw [stF_lo hh, stF_mid c2 hh]
    exact ⟨a3, a4⟩
  · rw [bset_z m (fun h hh => stF_hi c2 (by omega))]; exact c7
  · rw [stF_hi c2 (by omega)]; exact c8
  · rw [stF_hi c2 (by omega)]; exact c9
  · rw [stF_hi c2 (by omega)]; exact c10
-- the class leaves the places kept
theorem lp_leave (hK : ∀ I', Same (fun b k => (b = 37 ∨ b = 45 ∨ b = 53) ∧ k = 4) I I' → (∀ k, k < 3 → I' (keptA k) 4 = 0) → K (I' 24 4) I' X) : ∀ (q i : Nat) (I' : IT), i + q = 3 → Same (fun b k => (b = 37 ∨ b = 45 ∨ b = 53) ∧ k = 4) I I' → (∀ k, k < i → I' (keptA k) 4 = 0) → SR g (d + 2) iX10_village 90 [(0, rf g 1), (2, .int (nI i))] I' X (qI K) := by
  intro q
  induction q with
  | zero =>
    intro i I' hi hS hk
    obtain rfl : i = 3 := by omega
    exact rg_X10_village_90 ⟨fun _ => hK I' hS hk, fun c => absurd (Int32.le_refl _) c⟩
  | succ q ih =>
    intro i I' hi hS hk
    refine rg_X10_village_90 ⟨fun c => absurd c (nI_ge (a := i) (b := 3) (by omega) (by decide)), fun _ => ⟨vp_in_nI (by omega) (by decide), ?_⟩⟩
    rw [nI_clamp (by omega)]
    have hmem : ∀ i, i < 3 → keptA i ∈ campL := by decide
    have hka : keptA i = 37 + 8 * i := by unfold keptA; omega
    refine en_X0_leave (hmem i (by omega)) (fun I1 e1 x4 e4 => ?_)
    subst e4
    rw [nI_1]
    refine ih (i + 1) I1 (by omega) (fun b k hb => by rw [e1, set2_at, if_neg (by omega), hS b k hb]) (fun k hk2 => ?_)
    rw [e1, set2_at]
    by_cases e : k = i
    · subst e; rw [if_pos ⟨rfl, rfl⟩]
    · have hkb : keptA k = 37 + 8 * k := by unfold keptA; omega
      rw [if_neg (by omega)]; exact hk k (by omega)
-- the model
theorem lp_v215 (hK : ∀ I', Same (fun b _ => b = 144) I I' → (∀ k, k < 3 → I' 144 k = 0) → K (I' 129 10) I' X) : ∀ (q i : Nat) (I' : IT), i + q = 3 → Same (fun b _ => b = 144) I I' → (∀ k, k < i → I' 144 k = 0) → SR g (d + 1) iX11_village 215 [(0, rf g 129), (2, .int (nI i))] I' X (qI K) := by
  intro q
  induction q with
  | zero =>
    intro i I' hi hS hk
    obtain rfl : i = 3 := by omega
    exact rg_X11_village_215 ⟨fun _ => hK I' hS hk, fun c => absurd (Int32.le_refl _) c⟩
  | succ q ih =>
    intro i I' hi hS hk
    refine rg_X11_village_215 ⟨fun c => absurd c (nI_ge (a := i) (b := 3) (by omega) (by decide)), fun _ => ⟨vp_in_nI (by omega) (by decide), fun I1 e1 x4 e4 => ?_⟩⟩
    rw [nI_clamp (by omega)] at e1
    subst e4
    rw [nI_1]
    refine ih (i + 1) I1 (by omega) (fun b k hb => by rw [e1, set2_at, if_neg (by omega), hS b k hb]) (fun k hk2 => ?_)
    rw [e1, set2_at]
    by_cases e : k = i
    · rw [if_pos ⟨rfl, e⟩]
    · rw [if_neg (by omega)]; exact hk k (by omega)
theorem lp_v184 (hK : ∀ I', Same (fun b _ => b = 142) I I' → (∀ k, k < 18 → I' 142 k = I 141 k) → SR g (d + 1) iX11_village 215 [(0, rf g 129), (2, .int 0)] (set2 I' 129 22 0) X (qI K)) : ∀ (q i : Nat) (I' : IT), i + q = 18 → Same (fun b _ => b = 142) I I' → (∀ k, k < i → I' 142 k = I 141 k) → SR g (d + 1) iX11_village 184 [(0, rf g 129), (2, .int (nI i))] I' X (qI K) := by
  intro q
  induction q with
  | zero =>
    intro i I' hi hS hk
    obtain rfl : i = 18 := by omega
    exact rg_X11_village_184 ⟨fun _ I1 e1 => by subst e1; exact hK I' hS hk, fun c => absurd (Int32.le_refl _) c⟩
  | succ q ih =>
    intro i I' hi hS hk
    refine rg_X11_village_184 ⟨fun c => absurd c (nI_ge (a := i) (b := 18) (by omega) (by decide)), fun _ => ⟨vp_in_nI (by omega) (by decide), vp_in_nI (by omega) (by decide), fun I1 e1 x4 e4 => ?_⟩⟩
    rw [nI_clamp (by omega), hS 141 i (by omega)] at e1
    subst e4
    rw [nI_1]
    refine ih (i + 1) I1 (by omega) (fun b k hb => by rw [e1, set2_at, if_neg (by omega), hS b k hb]) (fun k hk2 => ?_)
    rw [e1, set2_at]
    by_cases e : k = i
    · rw [if_pos ⟨rfl, e⟩, e]
    · rw [if_neg (by omega)]; exact hk k (by omega)
theorem lp_v104 (hm : m ≤ 5) (hn : I 129 10 = nI m) (h140 : ∀ k, k < 4 * m → I 140 k = ndI (hd k)) (hz : ∀ k, k < 18 → I 141 k = 0) (hb : ∀ h, h < m → HB hd h)
    (hK : ∀ I', Same (fun b _ => b = 137 ∨ b = 138 ∨ b = 141) I I' → (∀ h, h < m → I' 137 h = nI (hd (4 * h)) ∧ I' 138 h = ndI (hd (4 * h + 3))) → (∀ k, k < 18 → I' 141 k = nI (stF m hd k)) → SR g (d + 1) iX11_village 184 [(0, rf g 129), (2, .int 0)] I' X (qI K)) : ∀ (q i : Nat) (I' : IT), i + q = m → Same (fun b _ => b = 137 ∨ b = 138 ∨ b = 141) I I' → (∀ h, h < i → I' 137 h = nI (hd (4 * h)) ∧ I' 138 h = ndI (hd (4 * h + 3))) → (∀ k, k < 18 → I' 141 k = nI (stF i hd k)) → SR g (d + 1) iX11_village 104 [(0, rf g 129), (2, .int (nI i))] I' X (qI K) := by
  intro q
  induction q with
  | zero =>
    intro i I' hi hS h1 h2
    obtain rfl : i = m := by omega
    refine rg_X11_village_104 ?_
    rw [hS 129 10 (by omega), hn]
    exact ⟨fun _ => hK I' hS h1 h2, fun c => absurd (Int32.le_refl _) c⟩
  | succ q ih =>
    intro i I' hi hS h1 h2
    have hB := hb i (by omega)
    unfold HB at hB
    refine rg_X11_village_104 ?_
    rw [hS 129 10 (by omega), hn, show (4 : Int32) * nI i = nI (4 * i) by rw [show (4 : Int32) = nI 4 from rfl, pk_mul], show nI (4 * i) + 1 = nI (4 * i + 1) from nI_add (4 * i) 1, show nI (4 * i) + 2 = nI (4 * i + 2) from nI_add (4 * i) 2, show nI (4 * i) + 3 = nI (4 * i + 3) from nI_add (4 * i) 3, show (5 : Int32) + nI i = nI (5 + i) from nI_add 5 i, nI_clamp (n := 4 * i) (by omega), nI_clamp (n := 4 * i + 1) (by omega), nI_clamp (n := 4 * i + 2) (by omega), nI_clamp (n := 4 * i + 3) (by omega), nI_clamp (n := 5 + i) (by omega), nI_clamp (n := i) (by omega)]
    refine ⟨fun c => absurd c (nI_ge (by omega) (by omega)), fun _ => ⟨vp_in_nI (by omega) (by decide), vp_in_nI (by omega) (by decide), fun I3 e3 => ⟨vp_in_nI (by omega) (by decide), vp_in_nI (by omega) (by decide), fun I6 e6 => ⟨vp_in_nI (by omega) (by decide), vp_in_nI (by omega) (by decide), fun I9 e9 => ⟨vp_in_nI (by omega) (by decide), vp_in_nI (by omega) (by decide), fun I12 e12 x13 e13 => ?_⟩⟩⟩⟩⟩
    subst e13
    rw [nI_1]
    have a3 : ∀ k, I3 140 k = I 140 k := fun k => by rw [e3, set2_at, if_neg (by omega), hS 140 k (by omega)]
    have a6 : ∀ k, I6 140 k = I 140 k := fun k => by rw [e6, set2_at, if_neg (by omega), a3]
    have a9 : ∀ k, I9 140 k = I 140 k := fun k => by rw [e9, set2_at, if_neg (by omega), a6]
    rw [hS 140 _ (by omega), h140 _ (by omega), ndI_lt (by omega)] at e3
    rw [a3, h140 _ (by omega), ndI_lt (by omega)] at e6
    rw [a6, h140 _ (by omega), ndI_lt (by omega)] at e9
    rw [a9, h140 _ (by omega)] at e12
    have at12 : ∀ b k, I12 b k = if b = 138 ∧ k = i then ndI (hd (4 * i + 3)) else if b = 141 ∧ k = 5 + i then nI (hd (4 * i + 2)) else if b = 141 ∧ k = i then nI (hd (4 * i + 1)) else if b = 137 ∧ k = i then nI (hd (4 * i)) else I' b k := fun b k => by rw [e12, set2_at, e9, set2_at, e6, set2_at, e3, set2_at]
    refine ih (i + 1) I12 (by omega) (fun b k hb => ?_) (fun h hh => ?_) (fun k hk => ?_)
    · rw [at12, if_neg (by omega), if_neg (by omega), if_neg (by omega), if_neg (by omega), hS b k hb]
    · rw [at12, if_neg (by omega), if_neg (by omega), if_neg (by omega), at12 138 h]
      by_cases e : h = i
      · subst e
        rw [if_pos ⟨rfl, rfl⟩, if_pos ⟨rfl, rfl⟩]
        exact ⟨rfl, rfl⟩
      · rw [if_neg (by omega), if_neg (by omega), if_neg (by omega), if_neg (by omega), if_neg (by omega)]
        exact h1 h (by omega)
    · rw [at12, if_neg (by omega)]
      by_cases e1 : k = 5 + i
      · subst e1
        rw [if_pos ⟨rfl, rfl⟩, stF_mid (by omega) (by omega)]
      · rw [if_neg (by omega)]
        by_cases e2 : k = i
        · subst e2
          rw [if_pos ⟨rfl, rfl⟩, stF_lo (by omega)]
        · rw [if_neg (by omega), if_neg (by omega), h2 k hk]
          rw [stF_step e1 e2]
theorem lp_v83 (hK : ∀ I', Same (fun b _ => b = 141) I I' → (∀ k, k < 18 → I' 141 k = 0) → SR g (d + 1) iX11_village 104 [(0, rf g 129), (2, .int 0)] I' X (qI K)) : ∀ (q i : Nat) (I' : IT), i + q = 18 → Same (fun b _ => b = 141) I I' → (∀ k, k < i → I' 141 k = 0) → SR g (d + 1) iX11_village 83 [(0, rf g 129), (2, .int (nI i))] I' X (qI K) := by
  intro q
  induction q with
  | zero =>
    intro i I' hi hS hk
    obtain rfl : i = 18 := by omega
    exact rg_X11_village_83 ⟨fun _ => hK I' hS hk, fun c => absurd (Int32.le_refl _) c⟩
  | succ q ih =>
    intro i I' hi hS hk
    refine rg_X11_village_83 ⟨fun c => absurd c (nI_ge (a := i) (b := 18) (by omega) (by decide)), fun _ => ⟨vp_in_nI (by omega) (by decide), fun I1 e1 x4 e4 => ?_⟩⟩
    rw [nI_clamp (by omega)] at e1
    subst e4
    rw [nI_1]
    refine ih (i + 1) I1 (by omega) (fun b k hb => by rw [e1, set2_at, if_neg (by omega), hS b k hb]) (fun k hk2 => ?_)
    rw [e1, set2_at]
    by_cases e : k = i
    · rw [if_pos ⟨rfl, e⟩]
    · rw [if_neg (by omega)]; exact hk k (by omega)
theorem lp_v55 (hw : w ≤ 6) (hn : I 129 11 = nI w) (hK : ∀ I', Same (fun b _ => b = 136) I I' → (∀ k, k < w → I' 136 k = I 139 k) → SR g (d + 1) iX11_village 83 [(0, rf g 129), (2, .int 0)] I' X (qI K)) : ∀ (q i : Nat) (I' : IT), i + q = w → Same (fun b _ => b = 136) I I' → (∀ k, k < i → I' 136 k = I 139 k) → SR g (d + 1) iX11_village 55 [(0, rf g 129), (2, .int (nI i))] I' X (qI K) := by
  intro q
  induction q with
  | zero =>
    intro i I' hi hS hk
    obtain rfl : i = w := by omega
    refine rg_X11_village_55 ?_
    rw [hS 129 11 (by omega), hn]
    exact ⟨fun _ => hK I' hS hk, fun c => absurd (Int32.le_refl _) c⟩
  | succ q ih =>
    intro i I' hi hS hk
    refine rg_X11_village_55 ?_
    rw [hS 129 11 (by omega), hn]
    refine ⟨fun c => absurd c (nI_ge (by omega) (by omega)), fun _ => ⟨vp_in_nI (by omega) (by decide), vp_in_nI (by omega) (by decide), fun I1 e1 x4 e4 => ?_⟩⟩
    rw [nI_clamp (by omega), hS 139 i (by omega)] at e1
    subst e4
    rw [nI_1]
    refine ih (i + 1) I1 (by omega) (fun b k hb => by rw [e1, set2_at, if_neg (by omega), hS b k hb]) (fun k hk2 => ?_)
    rw [e1, set2_at]
    by_cases e : k = i
    · rw [if_pos ⟨rfl, e⟩, e]
    · rw [if_neg (by omega)]; exact hk k (by omega)
theorem op_village {v : Int32} (h : Inv I X) : PairI g (d + 6) iX10_village iX11_village [.int v] I X := by
  refine en_X10_village (c_X10_isText (fun q => t_one' ?_) (fun q => t_zero' (en_X11_village (c_X11_isText (fun z => absurd z q) (fun _ => t_zero' ⟨rfl, h⟩)))))
  obtain ⟨t, ht, rfl⟩ := vp_in_of q (by decide)
  have tc : (nI t).toNatClampNeg = t := nI_clamp (by omega)
  rw [tc]
  refine ⟨q, c_X9_isThere (textA_mem ht) (fun c => t_one' ⟨q, ?_⟩) (fun c => t_zero' (c_X10_found 1 rfl (by decide) ?_))⟩
  · obtain ⟨g1, g2 | ⟨z, hz, g2, _⟩⟩ := h.2.2.2.2.1 t ht
    · rw [g1, g2] at c
      exact absurd m1_lt c
    obtain ⟨G, hX, hM⟩ := tx_both h ht hz g2
    refine c_X6_read (a := 62) (f := 66) (Or.inl ⟨rfl, rfl⟩) hX (fun I1 R h1 eR _ hb => ?_)
    have hM1 : TM I1 t z G := hM.same (fun b k hb => h1 b k (by omega))
    have hX1 : TX I1 t z G := hX.same (fun b k hb => h1 b k (by omega))
    by_cases r99 : R.1 = 99
    case neg =>
      have hb' := hb.resolve_left r99
      rw [ndI_lt r99]
      refine ⟨fun y => absurd y (m9_nI (by omega)), fun _ => ?_⟩
      refine en_X11_village (c_X11_isText (fun _ => t_one' ?_) (fun z => absurd q z))
      rw [tc, hM1.2.1]
      refine ⟨q, fun _ => c_X11_faultOf hM1 eR.symm (fun I2 h2 _ => ?_), fun y => absurd (nI_pos' (by omega)) y⟩
      rw [ndI_lt r99]
      refine ⟨fun y => absurd y (m9_nI (by omega)), fun _ => ⟨rfl, inv_out h (fun b k hb => ?_) h.2.2.1⟩⟩
      unfold Out at hb
      rw [h2 b k (by omega), h1 b k (by omega)]
    case pos =>
      rw [r99]
      refine ⟨fun _ => ⟨q, ?_⟩, fun y => absurd rfl y⟩
      refine c_X6_read (a := 24) (f := 30) (Or.inr ⟨rfl, rfl⟩) hX1 (fun I2 R2 h2 eR2 hc2 _ => ?_)
      have eRR : R2 = R := eR2.trans eR.symm
      subst eRR
      obtain ⟨hc, hm0, hw0⟩ := hc2 r99
      obtain ⟨f0, m, w, hd, wd⟩ := R2
      have r99' : f0 = 99 := r99
      subst r99'
      have hc' : CLR I2 24 30 m w hd wd := hc
      have hm0' : 0 < m := hm0
      have hw0' : 0 < w := hw0
      have hm5 := hc'.2.1
      have hw6 := hc'.2.2.2.1
      have hB : ∀ h, h < m → HB hd h := fun h hh => (hc'.2.2.2.2.1 h hh).2
      refine en_X0_begin (a := 28) (by decide) (fun I3 e3 I4 e4 => ?_)
      have hs4 : ∀ b k, b ≠ 28 → I4 b k = I2 b k := fun b k hb => by rw [e4, set2_at, if_neg (by omega), e3, set2_at, if_neg (by omega)]
      have hF := stF_WF hm5 hB
      refine c_X1_become (a := 33) (p := 30) (by decide) (by decide) (by decide) hm5 (hc'.FR.same (fun b k hb => hs4 b k (by omega))) hF.2.2.1 hF.2.2.2.1 (fun I5 h5 hf5 => ?_)
      refine lp_leave (fun I6 h6 hk6 => ?_) 3 0 I5 rfl Same.rf (fun k hk => absurd hk (by omega))
      -- what the class holds now
      have hs6 : ∀ b k, b ≠ 28 → ¬ (33 ≤ b ∧ b ≤ 35) → ¬ ((b = 37 ∨ b = 45 ∨ b = 53) ∧ k = 4) → I6 b k = I2 b k := fun b k x1 x2 x3 => by rw [h6 b k x3, h5 b k (by omega), hs4 b k x1]
      have n6 : I6 24 4 = nI m := by rw [hs6 24 4 (by omega) (by omega) (by omega)]; exact hc'.1
      have hM6 : TM I6 t z G := hM1.same (fun b k hb => by rw [hs6 b k (by omega) (by omega) (by omega), h2 b k (by omega)])
      rw [n6]
      refine en_X11_village (c_X11_isText (fun _ => t_one' ?_) (fun z => absurd q z))
      rw [tc, hM6.2.1]
      refine ⟨q, fun _ => c_X11_faultOf hM6 (R := (99, m, w, hd, wd)) eR2.symm (fun I7 h7 hm7 => ?_), fun y => absurd (nI_pos' (by omega)) y⟩
      obtain ⟨p', m1, m2, m3, m4, m5⟩ := hm7 rfl
      have m2' : I7 129 16 = nI m := m2
      have m3' : I7 129 17 = nI w := m3
      refine ⟨fun _ I8 e8 I9 e9 => ?_, fun y => absurd rfl y⟩
      rw [m2'] at e8
      have e817 : I8 129 17 = nI w := by rw [e8, set2_at, if_neg (by omega)]; exact m3'
      rw [e817] at e9
      have at9 : ∀ b k, I9 b k = if b = 129 ∧ k = 11 then nI w else if b = 129 ∧ k = 10 then nI m else I7 b k := fun b k => by rw [e9, set2_at, e8, set2_at]
      have ot9 : ∀ b k, ¬ (b = 129 ∧ (k = 10 ∨ k = 11)) → I9 b k = I7 b k := fun b k x => by rw [at9, if_neg (by omega), if_neg (by omega)]
      have w9 : I9 129 11 = nI w := by rw [at9, if_pos ⟨rfl, rfl⟩]
      have n9 : I9 129 10 = nI m := by rw [at9, if_neg (by omega), if_pos ⟨rfl, rfl⟩]
      refine lp_v55 hw6 w9 (fun I10 h10 k10 => ?_) w 0 I9 (by omega) Same.rf (fun k hk => absurd hk (by omega))
      refine lp_v83 (fun I11 h11 k11 => ?_) 18 0 I10 rfl Same.rf (fun k hk => absurd hk (by omega))
      have s11 : ∀ b k, b ≠ 136 → b ≠ 141 → I11 b k = I9 b k := fun b k x1 x2 => by rw [h11 b k x2, h10 b k x1]
      refine lp_v104 (m := m) (hd := hd) hm5 (by rw [s11 129 10 (by omega) (by omega)]; exact n9) (fun k hk => by rw [s11 140 k (by omega) (by omega), ot9 _ _ (by omega)]; exact m4 k hk) k11 hB (fun I12 h12 k12 f12 => ?_) m 0 I11 (by omega) Same.rf (fun k hk => absurd hk (by omega)) (fun k hk => ?_)
      · refine lp_v184 (fun I13 h13 k13 => ?_) 18 0 I12 rfl Same.rf (fun k hk => absurd hk (by omega))
        refine lp_v215 (fun I14 h14 k14 => ?_) 3 0 (set2 I13 129 22 0) rfl Same.rf (fun k hk => absurd hk (by omega))
        -- all places
        have s14 : ∀ b k, ¬ (b = 129 ∧ (k = 10 ∨ k = 11 ∨ k = 22 ∨ (15 ≤ k ∧ k ≤ 17))) → ¬ (136 ≤ b ∧ b ≤ 142) → b ≠ 144 → I14 b k = I6 b k := by
          intro b k x1 x2 x3
          rw [h14 b k x3, set2_at, if_neg (by omega), h13 b k (by omega), h12 b k (by omega), s11 b k (by omega) (by omega), ot9 b k (by omega), h7 b k (by omega)]
        have n14 : I14 129 10 = nI m := by rw [h14 _ _ (by omega), set2_at, if_neg (by omega), h13 _ _ (by omega), h12 _ _ (by omega), s11 _ _ (by omega) (by omega)]; exact n9
        have w14 : I14 129 11 = nI w := by rw [h14 _ _ (by omega), set2_at, if_neg (by omega), h13 _ _ (by omega), h12 _ _ (by omega), s11 _ _ (by omega) (by omega)]; exact w9
        have d14 : I14 129 22 = nI 0 := by rw [h14 _ _ (by omega), set2_at, if_pos ⟨rfl, rfl⟩]; rfl
        have f14 : ∀ k, k < 18 → I14 141 k = nI (stF m hd k) := fun k hk => by rw [h14 _ _ (by omega), set2_at, if_neg (by omega), h13 _ _ (by omega)]; exact f12 k hk
        have g14 : ∀ k, k < 18 → I14 142 k = nI (stF m hd k) := fun k hk => by rw [h14 _ _ (by omega), set2_at, if_neg (by omega), k13 k hk]; exact f12 k hk
        have k137 : ∀ h, h < m → I14 137 h = nI (hd (4 * h)) ∧ I14 138 h = ndI (hd (4 * h + 3)) := fun h hh => by
          rw [h14 _ _ (by omega), set2_at, if_neg (by omega), h13 _ _ (by omega), h14 138 _ (by omega), set2_at, if_neg (by omega), h13 _ _ (by omega)]
          exact k12 h hh
        have k136 : ∀ k, k < w → I14 136 k = nI (wd k) := fun k hk => by
          rw [h14 _ _ (by omega), set2_at, if_neg (by omega), h13 _ _ (by omega), h12 _ _ (by omega), h11 _ _ (by omega), k10 k hk, ot9 _ _ (by omega)]
          exact m5 k hk
        have old : ∀ b k, ¬ (24 ≤ b ∧ b ≤ 71) → ¬ (b = 129 ∧ (k = 10 ∨ k = 11 ∨ k = 22 ∨ (15 ≤ k ∧ k ≤ 17))) → ¬ (136 ≤ b ∧ b ≤ 144) → I14 b k = I b k := fun b k x1 x2 x3 => by
          rw [s14 b k x2 (by omega) (by omega), hs6 b k (by omega) (by omega) (by omega), h2 b k (by omega), h1 b k (by omega)]
        have hk37 : ∀ k, k < 3 → keptA k = 37 + 8 * k := fun k hk => by unfold keptA; omega
        obtain ⟨c1, c2, c3, c4, c5, c6, c7, c8, c9, c10⟩ := id hc'
        have l14 : ∀ b k, 24 ≤ b → b ≤ 32 → b ≠ 28 → I14 b k = I2 b k := fun b k x1 x2 x3 => by rw [s14 b k (by omega) (by omega) (by omega), hs6 b k x3 (by omega) (by omega)]
        rw [n14]
        refine ⟨rfl, h.1.same (fun b k hb => old b k (by omega) (by omega) (by omega)), h.2.1.same (fun b k hb => old b k (by omega) (by omega) (by omega)), h.2.2.1, h.2.2.2.1.same (fun b k hb => old b k (by omega) (by omega) (by omega)), h.2.2.2.2.1.same (fun b k hb => old b k (by omega) (by omega) (by omega)), ?_⟩
        refine ⟨m, w, fun h => hd (4 * h), fun h => hd (4 * h + 3), wd, 0, z0, fun _ => stF m hd, ⟨⟨by rw [l14 24 4 (by omega) (by omega) (by omega)]; exact c1, n14, hm5⟩, ⟨by rw [l14 24 3 (by omega) (by omega) (by omega)]; exact c3, w14, hw6, fun _ => hw0'⟩, fun h hh => ?_, fun h hh => ?_, fun k hk => ?_⟩, ⟨⟨by omega, fun i hi => absurd hi (by omega), fun i hi => ?_, fun h hh => stF_hi hm5 (by omega), stF_hi hm5 (by omega), stF_hi hm5 (by omega)⟩, ⟨?_, fun i hi => absurd hi (by omega), ?_, ?_⟩, fun _ => ?_, d14, f14, g14, fun i hi => absurd hi (by omega)⟩, fun k hk => ?_⟩
        · rw [l14 25 h (by omega) (by omega) (by omega)]
          exact ⟨(c5 h hh).1.1, (k137 h hh).1, (c5 h hh).2.1⟩
        · rw [l14 26 h (by omega) (by omega) (by omega)]
          exact ⟨(c5 h hh).1.2.1, (k137 h hh).2, (c5 h hh).2.2.2.2⟩
        · rw [l14 27 k (by omega) (by omega) (by omega)]
          exact ⟨(c6 k hk).1, k136 k hk, (c6 k hk).2⟩
        · obtain rfl : i = 0 := by omega
          exact hF
        · rw [s14 28 3 (by omega) (by omega) (by omega), h6 28 3 (by omega), h5 28 3 (by omega), e4, set2_at, if_pos ⟨rfl, rfl⟩]; rfl
        · exact hc'.FR.same (fun b k hb => l14 b k (by omega) (by omega) (by omega))
        · exact hf5.same (fun b k hb => by rw [s14 b k (by omega) (by omega) (by omega), h6 b k (by omega)])
        · rw [s14 28 4 (by omega) (by omega) (by omega), h6 28 4 (by omega), h5 28 4 (by omega), e4, set2_at, if_neg (by omega), e3, set2_at, if_pos ⟨rfl, rfl⟩]
        · have e1 : I14 (keptA k) 4 = 0 := by
            have := hk37 k hk
            rw [s14 _ _ (by omega) (by omega) (by omega)]
            exact hk6 k hk
          have e2 : I14 144 k = 0 := k14 k hk
          rw [e1, e2]
          exact ⟨rfl, Or.inl rfl⟩
      · rw [k11 k hk]
        unfold stF
        rw [if_neg (by omega), if_neg (by omega)]
        rfl
  · obtain ⟨g1, g2 | ⟨z, hz, g2, _⟩⟩ := h.2.2.2.2.1 t ht
    · refine en_X11_village (c_X11_isText (fun _ => t_one' ?_) (fun z => absurd q z))
      rw [tc, fndC_at (by omega), g2]
      exact ⟨q, fun y => absurd y m1_nle, fun _ => c_X11_meets 1 rfl (by decide) ⟨rfl, inv_found (by decide) h⟩⟩
    · rw [g1, g2] at c
      exact absurd c (nI_pos (by omega))
end T88
