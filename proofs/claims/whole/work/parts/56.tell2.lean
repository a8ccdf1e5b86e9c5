/-! ===== reach, stack ===== -/
section T56
variable {g : OG} {d : Nat} {I : IT} {X : XT} {K : Int32 → IT → XT → Prop} {KV : IT → XT → Prop}
variable {n w : Nat} {kd nd wd : Nat → Nat} {F : Nat → Nat} {m f a D : Nat} {dd : Nat → Nat} {S : Nat → Nat → Nat}
theorem tb_or (b i k : Nat) : (b ||| 2 ^ i).testBit k = true ↔ b.testBit k = true ∨ i = k := by
  rw [Nat.testBit_or, Nat.testBit_two_pow]
  simp
theorem lp_X1_reachable (ha : a ∈ fireL) (h66 : a ≠ 66) (he : iE I n w kd nd wd) (hf : FR I a n F) (hw : WF n F m) (hm : m ≤ 900) (hK : ∀ b, (∀ k, b.testBit k = true ↔ ∃ mv, mv < 36 ∧ mvN n w kd wd F mv ∧ mv % 6 = k) → K (nI b) I X) : ∀ (q i b : Nat), i + q = 36 → (∀ k, b.testBit k = true ↔ ∃ mv, mv < i ∧ mvN n w kd wd F mv ∧ mv % 6 = k) → SR g (d + 5) iX1_reachable 4 [(0, rf g a), (1, .int (nI b)), (2, .int (nI i))] I X (qI K) := by
  have hn := he.1.2.2
  intro q
  induction q with
  | zero =>
    intro i b hi hb
    obtain rfl : i = 36 := by omega
    exact rg_X1_reachable_4 ha ⟨fun _ => hK b hb, fun c => absurd (Int32.le_refl _) c⟩
  | succ q ih =>
    intro i b hi hb
    refine rg_X1_reachable_4 ha ⟨fun c => absurd c (nI_ge (a := i) (b := 36) (by omega) (by omega)), fun _ => c_X1_canMove (by omega) ha h66 he hf hw hm (fun z => t_one (fun x6 e6 x7 e7 => ?_)) (fun z => t_zero (fun x4 e4 x5 e5 => ?_))⟩
    · rw [i_rem6 (by omega), sh_one _ (by omega), i_or] at e6
      subst e6; subst e7
      rw [nI_1]
      refine ih (i + 1) _ (by omega) (fun k => ?_)
      rw [tb_or, hb k]
      constructor
      · rintro (⟨mv, h1, h2, h3⟩ | h1)
        · exact ⟨mv, by omega, h2, h3⟩
        · exact ⟨i, by omega, z, h1⟩
      · rintro ⟨mv, h1, h2, h3⟩
        by_cases e : mv = i
        · exact Or.inr (e ▸ h3)
        · exact Or.inl ⟨mv, by omega, h2, h3⟩
    · rw [show (0 : Int32) = nI 0 from rfl, i_or, Nat.or_zero] at e4
      subst e4; subst e5
      rw [nI_1]
      refine ih (i + 1) _ (by omega) (fun k => ?_)
      rw [hb k]
      constructor
      · rintro ⟨mv, h1, h2, h3⟩
        exact ⟨mv, by omega, h2, h3⟩
      · rintro ⟨mv, h1, h2, h3⟩
        by_cases e : mv = i
        · exact absurd (e ▸ h2) z
        · exact ⟨mv, by omega, h2, h3⟩
theorem lp_X11_reach14 {h : Nat} (hh : h < n) (he : iE I n w kd nd wd) (hF0 : FM I 0 F) (hw : WF n F m) (hm : m ≤ 900) (hK : ∀ b, (∀ k, b.testBit k = true ↔ ∃ j, j < h + 1 ∧ canN n w kd wd F j k) → SR g (d + 3) iX11_reach 4 [(0, rf g 129), (1, .int (nI b)), (2, .int (nI (h + 1)))] I X (qI K)) : ∀ (q i b : Nat), i + q = n → (∀ k, b.testBit k = true ↔ (∃ j, j < h ∧ canN n w kd wd F j k) ∨ (k < i ∧ canN n w kd wd F h k)) → SR g (d + 3) iX11_reach 14 [(0, rf g 129), (1, .int (nI b)), (2, .int (nI h)), (3, .int (nI i))] I X (qI K) := by
  have hn := he.1.2.2
  intro q
  induction q with
  | zero =>
    intro i b hi hb
    obtain rfl : i = n := by omega
    refine rg_X11_reach_14 ?_
    rw [he.1.2.1]
    refine ⟨fun _ x1 e1 => ?_, fun c => absurd (Int32.le_refl _) c⟩
    subst e1
    rw [nI_1]
    refine hK b (fun k => ?_)
    rw [hb k]
    constructor
    · rintro (⟨j, h1, h2⟩ | ⟨h1, h2⟩)
      · exact ⟨j, by omega, h2⟩
      · exact ⟨h, by omega, h2⟩
    · rintro ⟨j, h1, h2⟩
      by_cases e : j = h
      · subst e
        exact Or.inr ⟨h2.2.2.1.1, h2⟩
      · exact Or.inl ⟨j, by omega, h2⟩
  | succ q ih =>
    intro i b hi hb
    refine rg_X11_reach_14 ?_
    rw [he.1.2.1]
    refine ⟨fun c => absurd c (nI_ge (by omega) (by omega)), fun _ => c_X11_canCarry (f := 0) (by decide) hh (by omega) he hF0 hw hm (fun z => t_one (fun x6 e6 x7 e7 => ?_)) (fun z => t_zero (fun x4 e4 x5 e5 => ?_))⟩
    · rw [sh_one _ (by omega), i_or] at e6
      subst e6; subst e7
      rw [nI_1]
      refine ih (i + 1) _ (by omega) (fun k => ?_)
      rw [tb_or, hb k]
      constructor
      · rintro ((h1 | ⟨h1, h2⟩) | h1)
        · exact Or.inl h1
        · exact Or.inr ⟨by omega, h2⟩
        · exact Or.inr ⟨by omega, h1 ▸ z⟩
      · rintro (h1 | ⟨h1, h2⟩)
        · exact Or.inl (Or.inl h1)
        · by_cases e : i = k
          · exact Or.inr e
          · exact Or.inl (Or.inr ⟨by omega, h2⟩)
    · rw [show (0 : Int32) = nI 0 from rfl, i_or, Nat.or_zero] at e4
      subst e4; subst e5
      rw [nI_1]
      refine ih (i + 1) _ (by omega) (fun k => ?_)
      rw [hb k]
      constructor
      · rintro (h1 | ⟨h1, h2⟩)
        · exact Or.inl h1
        · exact Or.inr ⟨by omega, h2⟩
      · rintro (h1 | ⟨h1, h2⟩)
        · exact Or.inl h1
        · by_cases e : i = k
          · exact absurd (e ▸ h2) z
          · exact Or.inr ⟨by omega, h2⟩
theorem lp_X11_reach4 (he : iE I n w kd nd wd) (hF0 : FM I 0 F) (hw : WF n F m) (hm : m ≤ 900) (hK : ∀ b, (∀ k, b.testBit k = true ↔ ∃ j, j < n ∧ canN n w kd wd F j k) → K (nI b) I X) : ∀ (q h b : Nat), h + q = n → (∀ k, b.testBit k = true ↔ ∃ j, j < h ∧ canN n w kd wd F j k) → SR g (d + 3) iX11_reach 4 [(0, rf g 129), (1, .int (nI b)), (2, .int (nI h))] I X (qI K) := by
  have hn := he.1.2.2
  intro q
  induction q with
  | zero =>
    intro h b hi hb
    obtain rfl : h = n := by omega
    refine rg_X11_reach_4 ?_
    rw [he.1.2.1]
    exact ⟨fun _ => hK b hb, fun c => absurd (Int32.le_refl _) c⟩
  | succ q ih =>
    intro h b hi hb
    refine rg_X11_reach_4 ?_
    rw [he.1.2.1]
    refine ⟨fun c => absurd c (nI_ge (by omega) (by omega)), fun _ => ?_⟩
    refine lp_X11_reach14 (by omega) he hF0 hw hm (fun b2 hb2 => ih (h + 1) b2 (by omega) hb2) n 0 b (by omega) (fun k => ?_)
    rw [hb k]
    exact ⟨Or.inl, fun z => z.elim id (fun y => absurd y.1 (Nat.not_lt_zero k))⟩
theorem op_reach (h : Inv I X) : PairI g (d + 6) iX10_reach iX11_reach [] I X := by
  obtain ⟨n, w, kd, nd, wd, D, dd, S, hE, hV, hK⟩ := h.2.2.2.2.2
  have hn := hE.1.2.2
  obtain ⟨v1, v2, v3, v4, v5, v6, v7⟩ := id hV
  have hD := v1.1
  have hw := v1.2.2.1 D (Nat.le_refl D)
  refine en_X10_reach (en_X1_reachable (a := 33) (by decide) (lp_X1_reachable (a := 33) (by decide) (by decide) hE v2.2.2.2 hw (by omega) (fun b1 hb1 => ?_) 36 0 0 rfl (fun k => ?_)))
  · refine en_X11_reach (lp_X11_reach4 hE (FM0.mpr v6) hw (by omega) (fun b2 hb2 => ⟨?_, h⟩) n 0 0 (by omega) (fun k => ?_))
    · rw [Nat.zero_testBit]
      exact ⟨fun z => absurd z (by decide), fun ⟨j, h1, _⟩ => absurd h1 (Nat.not_lt_zero j)⟩
    · congr 1
      apply Nat.eq_of_testBit_eq
      intro k
      rw [Bool.eq_iff_iff, hb1 k, hb2 k]
      constructor
      · rintro ⟨j, h1, h2⟩
        have hk := h2.2.2.1.1
        refine ⟨6 * j + k, by omega, ⟨by omega, ?_⟩, by omega⟩
        rw [show (6 * j + k) / 6 = j by omega, show (6 * j + k) % 6 = k by omega]
        exact h2
      · rintro ⟨mv, h1, h2, rfl⟩
        exact ⟨mv / 6, h2.2.2.1.1, h2.2⟩
  · rw [Nat.zero_testBit]
    exact ⟨fun z => absurd z (by decide), fun ⟨j, h1, _⟩ => absurd h1 (Nat.not_lt_zero j)⟩
theorem c_X1_furnish {j v y : Nat} (hj : j < 5) (ha : a ∈ fireL) (hK : KV (set2 (set2 I (a + 1) j (nI v)) (a + 2) j (nI y)) X) : CV g (d + 1) iX1_furnish [rf g a, .int (nI j), .int (nI v), .int (nI y)] I X KV := by
  refine en_X1_furnish ha ⟨fun c => absurd c (nI_pos (by omega)), fun _ => ⟨fun c => absurd c (nI_ge (a := j) (b := 5) (by omega) (by omega)), fun _ => ⟨vp_in_nI (by omega) (by decide), fun I2 e2 => ⟨vp_in_nI (by omega) (by decide), fun I4 e4 => ?_⟩⟩⟩⟩
  rw [nI_clamp (by omega)] at e2 e4
  subst e2; subst e4
  exact hK
theorem FR.wood {j v : Nat} (hn : n ≤ 5) (hj : j < n) (hf : FR I a n F) : FR (set2 (set2 I (a + 1) j (nI v)) (a + 2) j (nI (F (5 + j)))) a n (mW F j v) := by
  obtain ⟨f1, f2, f3, f4, f5⟩ := hf
  refine ⟨fun h hh => ⟨?_, ?_⟩, ?_, ?_, ?_, ?_⟩
  · rw [set2_at, if_neg (by omega), set2_at, mW_at]
    by_cases e : h = j
    · rw [if_pos ⟨rfl, e⟩, if_pos e]
    · rw [if_neg (fun z => e z.2), if_neg e]
      exact (f1 h hh).1
  · rw [set2_at, mW_at, if_neg (show ¬ 5 + h = j by omega)]
    by_cases e : h = j
    · rw [if_pos ⟨rfl, e⟩, e]
    · rw [if_neg (fun z => e z.2), set2_at, if_neg (by omega)]
      exact (f1 h hh).2
  · rw [set2_at, if_neg (by omega), set2_at, if_neg (by omega), f2]
    exact congrArg nI (bset_cong (fun h hh => by rw [mW_at, if_neg (by omega)]))
  · rw [set2_at, if_neg (by omega), set2_at, if_neg (by omega), f3, mW_at, if_neg (by omega)]
  · rw [set2_at, if_neg (by omega), set2_at, if_neg (by omega), f4, mW_at, if_neg (by omega)]
  · rw [set2_at, if_neg (by omega), set2_at, if_neg (by omega), f5, mW_at, if_neg (by omega)]
theorem stack_C {j v : Nat} (hn : n ≤ 5) (hj : j < n) (hv : v ≤ 9) (h : iC n kd 0 dd S) : iC n kd 0 dd (fun _ => mW (S 0) j v) := by
  obtain ⟨c1, c2, c3, c4, c5, c6⟩ := h
  have hw := c3 0 (Nat.le_refl 0)
  refine ⟨c1, fun i hi => absurd hi (Nat.not_lt_zero i), fun i hi => ?_, fun h hh => ?_, ?_, ?_⟩
  · obtain rfl : i = 0 := by omega
    show WF n (mW (S 0) j v) 0
    refine ⟨fun h hh => ?_, ?_, ?_, ?_, fun k hk => ?_⟩
    · obtain ⟨u1, u2, u3, u4⟩ := hw.1 h hh
      simp only [mW_at]
      rw [if_neg (show ¬ 5 + h = j by omega), if_neg (show ¬ 10 + h = j by omega)]
      refine ⟨by split <;> omega, u2, u3, fun z => ?_⟩
      rw [c4 h hh] at z
      omega
    · rw [mW_at, if_neg (by omega)]; exact hw.2.1
    · rw [mW_at, if_neg (by omega)]; exact hw.2.2.1
    · rw [mW_at, if_neg (by omega)]; exact hw.2.2.2.1
    · rw [mW_at]
      have := hw.2.2.2.2 k hk
      split <;> omega
  · show mW (S 0) j v (10 + h) = 0
    rw [mW_at, if_neg (by omega)]; exact c4 h hh
  · show mW (S 0) j v 16 = 0
    rw [mW_at, if_neg (by omega)]; exact c5
  · show mW (S 0) j v 17 = 0
    rw [mW_at, if_neg (by omega)]; exact c6
theorem op_stack {u x : Int32} (h : Inv I X) : PairI g (d + 4) iX10_stack iX11_stack [.int u, .int x] I X := by
  obtain ⟨n, w, kd, nd, wd, D, dd, S, hE, hV, hK⟩ := h.2.2.2.2.2
  have hn := hE.1.2.2
  obtain ⟨v1, v2, v3, v4, v5, v6, v7⟩ := id hV
  have hD := v1.1
  refine en_X10_stack (c_X3_has hE (fun q => t_one ?_) (fun q => t_zero (en_X11_stack (c_X11_isHouse hE (fun z => absurd z q) (fun _ => t_zero ⟨rfl, h⟩)))))
  obtain ⟨j, hj, rfl⟩ := vp_in_of q (by omega)
  by_cases hv : vp_in x 10
  · obtain ⟨v, hv9, rfl⟩ := vp_in_of hv (by decide)
    have hin : (0 : Int32) ≤ nI v ∧ nI v ≤ 9 := (inB (n := 9) (by decide)).mpr hv
    refine ⟨fun c => absurd c (nI_pos (by omega)), fun _ => ⟨fun _ => ?_, fun c => absurd hin.2 c⟩⟩
    rw [v2.1]
    have e0 : nI D ≤ 0 ↔ D = 0 := nle0 (by omega)
    by_cases hD0 : D = 0
    · subst hD0
      refine ⟨fun _ => ?_, fun c => absurd (e0.mpr rfl) c⟩
      refine c_X1_woodOf (a := 33) hj (by decide) (by decide) hE v2.2.2.2 ?_
      refine en_X0_restack (a := 28) (by decide) (c_X1_wetOf (a := 30) hj (by decide) (by decide) hE v2.2.2.1 (c_X1_furnish (a := 30) (by omega) (by decide) ?_))
      have f1 := FR.wood (v := v) hn hj v2.2.2.1
      have f2 : FR (set2 (set2 I (30 + 1) j (nI v)) (30 + 2) j (nI (S 0 (5 + j)))) 33 n (S 0) := v2.2.2.2.same (fun b k hb => by rw [set2_at, if_neg (by omega), set2_at, if_neg (by omega)])
      have hs1 : ∀ b k, ¬ (b = 31 ∨ b = 32) → set2 (set2 I (30 + 1) j (nI v)) (30 + 2) j (nI (S 0 (5 + j))) b k = I b k := fun b k hb => by rw [set2_at, if_neg (by omega), set2_at, if_neg (by omega)]
      generalize hI1 : set2 (set2 I (30 + 1) j (nI v)) (30 + 2) j (nI (S 0 (5 + j))) = I1 at f1 f2 hs1
      refine c_X1_wetOf (a := 33) hj (by decide) (by decide) (hE.same (fun b k hb => hs1 b k (by omega))) f2 (c_X1_furnish (a := 33) (by omega) (by decide) ?_)
      have f3 := FR.wood (v := v) hn hj f2
      have f4 : FR (set2 (set2 I1 (33 + 1) j (nI v)) (33 + 2) j (nI (S 0 (5 + j)))) 30 n (mW (S 0) j v) := f1.same (fun b k hb => by rw [set2_at, if_neg (by omega), set2_at, if_neg (by omega)])
      have hs2 : ∀ b k, ¬ (b = 31 ∨ b = 32 ∨ b = 34 ∨ b = 35) → set2 (set2 I1 (33 + 1) j (nI v)) (33 + 2) j (nI (S 0 (5 + j))) b k = I b k := fun b k hb => by rw [set2_at, if_neg (by omega), set2_at, if_neg (by omega)]; exact hs1 b k (by omega)
      generalize hI2 : set2 (set2 I1 (33 + 1) j (nI v)) (33 + 2) j (nI (S 0 (5 + j))) = I2 at f3 f4 hs2
      refine en_X11_stack (c_X11_isHouse (hE.same (fun b k hb => hs2 b k (by omega))) (fun _ => t_one (c_X11_in (fun _ => t_one' ?_) (fun z => absurd hin z))) (fun z => absurd q z))
      rw [hs2 129 22 (by omega), v4]
      refine ⟨fun _ => ⟨vp_in_nI (by omega) (by decide), fun x8 e8 => ⟨vp_in_nI (by omega) (by decide), fun I3 e3 => ⟨vp_in_nI (by omega) (by decide), fun I4 e4 => ?_⟩⟩⟩, fun c => absurd (e0.mpr rfl) c⟩
      rw [nI_clamp (by omega)] at e8 e3 e4
      have hs4 : ∀ b k, ¬ (b = 31 ∨ b = 32 ∨ b = 34 ∨ b = 35 ∨ b = 141 ∨ b = 142) → I4 b k = I b k := fun b k hb => by
        rw [e4, set2_at, if_neg (by omega), e3, set2_at, if_neg (by omega)]; exact hs2 b k (by omega)
      have g3 : FR I4 33 n (mW (S 0) j v) := f3.same (fun b k hb => by rw [e4, set2_at, if_neg (by omega), e3, set2_at, if_neg (by omega)])
      have g4 : FR I4 30 n (mW (S 0) j v) := f4.same (fun b k hb => by rw [e4, set2_at, if_neg (by omega), e3, set2_at, if_neg (by omega)])
      refine ⟨by rw [e8, hs2 142 j (by omega)]; exact v6 j (by omega), h.1.same (fun b k hb => hs4 b k (by omega)), h.2.1.same (fun b k hb => hs4 b k (by omega)), h.2.2.1, h.2.2.2.1.same (fun b k hb => hs4 b k (by omega)), h.2.2.2.2.1.same (fun b k hb => hs4 b k (by omega)), ?_⟩
      refine ⟨n, w, kd, nd, wd, 0, dd, fun _ => mW (S 0) j v, hE.same (fun b k hb => hs4 b k (by omega)), ⟨stack_C hn hj (by omega) v1, ⟨by rw [hs4 28 3 (by omega)]; exact v2.1, fun i hi => absurd hi (Nat.not_lt_zero i), g4, g3⟩, fun z => by rw [hs4 28 4 (by omega)]; exact v3 z, by rw [hs4 129 22 (by omega)]; exact v4, fun k hk => ?_, fun k hk => ?_, fun i hi => absurd hi (Nat.not_lt_zero i)⟩, hK.same (fun b k hb => hs4 b k (by omega))⟩
      · show _ = nI (mW (S 0) j v k)
        rw [e4, set2_at, mW_at]
        by_cases e : k = j
        · rw [if_pos ⟨rfl, e⟩, if_pos e]
        · rw [if_neg (fun z => e z.2), if_neg e, e3, set2_at, if_neg (by omega), hs2 141 k (by omega)]
          exact v5 k hk
      · show _ = nI (mW (S 0) j v k)
        rw [e4, set2_at, if_neg (by omega), e3, set2_at, mW_at]
        by_cases e : k = j
        · rw [if_pos ⟨rfl, e⟩, if_pos e]
        · rw [if_neg (fun z => e z.2), if_neg e, hs2 142 k (by omega)]
          exact v6 k hk
    · refine ⟨fun c => absurd (e0.mp c) hD0, fun _ => ?_⟩
      refine en_X11_stack (c_X11_isHouse hE (fun _ => t_one (c_X11_in (fun _ => t_one' ?_) (fun z => absurd hin z))) (fun z => absurd q z))
      rw [v4]
      exact ⟨fun c => absurd (e0.mp c) hD0, fun _ => ⟨rfl, h⟩⟩
  · have hm : CI g (d + 4) iX11_stack [rf g 129, .int (nI j), .int x] I X (fun r' I2 X2 => r' = -1 ∧ Inv I2 X2) :=
      en_X11_stack (c_X11_isHouse hE (fun _ => t_one (c_X11_in (fun z => absurd ((inB (n := 9) (by decide)).mp z) hv) (fun _ => t_zero' ⟨rfl, h⟩))) (fun z => absurd q z))
    refine ⟨fun _ => hm, fun c => ⟨fun c2 => ?_, fun _ => hm⟩⟩
    exact absurd ((inB (n := 9) (by decide)).mp ⟨Int32.not_lt.mp c, c2⟩) hv
end T56
