/-! ===== what is told in lowest terms; ways ===== -/
theorem set2L_at (L : Nat → Nat → Int64) (a j : Nat) (v : Int64) (b k : Nat) : set2L L a j v b k = if b = a ∧ k = j then v else L b k := by
  unfold set2L
  by_cases h : b = a
  · subst h
    rw [if_pos rfl]
    unfold vp_updL
    by_cases hk : k = j
    · simp [hk]
    · simp [hk]
  · rw [if_neg h, if_neg (fun q => h q.1)]
theorem cmp_0 {b : Nat} (hb : b < 2 ^ 62) : lg_cmp (lN b) 0 = 0 ↔ b = 0 := by
  have e0 : (0 : Int64) = lN 0 := rfl
  unfold lg_cmp
  rw [e0]
  by_cases h : b = 0
  · subst h
    exact ⟨fun _ => rfl, fun _ => by decide⟩
  · have hgt : lN b > lN 0 := (pk_lLT (a := 0) (b := b) (by decide) (by omega)).mpr (by omega)
    rw [if_pos hgt]
    exact ⟨fun q => absurd q (by decide), fun q => absurd q h⟩
theorem cmp_pos {b : Nat} (hb : b < 2 ^ 62) (h : 0 < b) : 0 < lg_cmp (lN b) 0 := by
  rw [cmp_gt, pk_lT (by omega), show (0 : Int64).toInt = 0 from rfl]
  omega
theorem lN_ne {b : Nat} (hb : b < 2 ^ 62) (h : 0 < b) : ¬ lN b = 0 := fun z => by
  have := (pk_lEQ (a := b) (b := 0) (by omega) (by decide)).mp z
  omega
section T73
variable {g : OG} {d : Nat} {I : IT} {X : XT} {K : Int32 → IT → XT → Prop} {KV : IT → XT → Prop} {KL : Int64 → IT → XT → Prop}
variable {n w : Nat} {kd nd wd : Nat → Nat} {F : Nat → Nat} {m f a D : Nat} {dd : Nat → Nat} {S : Nat → Nat → Nat}
theorem gcd_st (a b : Nat) : Nat.gcd b (a % b) = Nat.gcd a b := by
  rw [Nat.gcd_comm a b, Nat.gcd_rec b a, Nat.gcd_comm]
theorem half {b c k : Nat} (hc : 0 < c) (hcb : c < b) (hb : b < 2 ^ (k + 1)) : b % c < 2 ^ k := by
  have h1 : b % c < c := Nat.mod_lt _ hc
  have h2 : b % c = (b - c) % c := by rw [Nat.mod_eq_sub_mod (by omega)]
  have h3 : (b - c) % c ≤ b - c := Nat.mod_le _ _
  rw [Nat.pow_succ] at hb
  omega
theorem lp_X10_cd : ∀ (k a b i : Nat), a < 2 ^ 62 → b < 2 ^ k → k ≤ 40 → i + 2 * k + 1 ≤ 100 → KL (lN (Nat.gcd a b)) I X → SR g (d + 1) iX10_commonDivisor 9 [(4, .long (lN a)), (6, .long (lN b)), (8, .int (nI i))] I X (qL KL) := by
  intro k
  induction k with
  | zero =>
    intro a b i ha hb hk hi hK
    obtain rfl : b = 0 := by omega
    rw [Nat.gcd_zero_right] at hK
    refine rg_X10_commonDivisor_9 ⟨fun _ => hK, fun _ => ?_⟩
    rw [cmp_0 (by decide)]
    exact ⟨fun _ => hK, fun c => absurd rfl c⟩
  | succ k ih =>
    intro a b i ha hb hk hi hK
    have hp : (2 : Nat) ^ (k + 1) ≤ 2 ^ 40 := Nat.pow_le_pow_right (by decide) hk
    refine rg_X10_commonDivisor_9 ⟨fun c => absurd c (nI_ge (a := i) (b := 100) (by omega) (by decide)), fun _ => ?_⟩
    rw [cmp_0 (by omega)]
    refine ⟨fun z => ?_, fun z => ⟨lN_ne (by omega) (by omega), fun x2 e2 x3 e3 => ?_⟩⟩
    · subst z
      rw [Nat.gcd_zero_right] at hK
      exact hK
    · rw [pk_lRem (by omega) (by omega) (by omega)] at e2
      subst e2; subst e3
      rw [nI_1]
      have hc : a % b < b := Nat.mod_lt _ (by omega)
      refine rg_X10_commonDivisor_9 ⟨fun c => absurd c (nI_ge (a := i + 1) (b := 100) (by omega) (by decide)), fun _ => ?_⟩
      rw [cmp_0 (by omega)]
      refine ⟨fun y => ?_, fun y => ⟨lN_ne (by omega) (by omega), fun x2 e2 x3 e3 => ?_⟩⟩
      · rw [← gcd_st, y, Nat.gcd_zero_right] at hK
        exact hK
      · rw [pk_lRem (by omega) (by omega) (by omega)] at e2
        subst e2; subst e3
        rw [nI_1]
        refine ih (a % b) (b % (a % b)) (i + 1 + 1) (by omega) (half (by omega) hc hb) (by omega) (by omega) ?_
        rw [gcd_st, gcd_st]
        exact hK
theorem c_X10_tell {a b : Nat} (ha : a < 2 ^ 62) (hb : b < 2 ^ 40) (hg : 0 < Nat.gcd a b) (hK : KV I (set2L (set2L X.1 1 15 (lN (a / Nat.gcd a b))) 1 16 (lN (b / Nat.gcd a b)), X.2)) : CV g (d + 2) iX10_tell [rf g 1, .long (lN a), .long (lN b)] I X KV := by
  have hg2 : Nat.gcd a b < 2 ^ 62 := by
    by_cases z : b = 0
    · rw [z, Nat.gcd_zero_right]; exact ha
    · exact Nat.lt_of_le_of_lt (Nat.gcd_le_right a (by omega)) (by omega)
  refine en_X10_tell (en_X10_commonDivisor (lp_X10_cd 40 a b 0 ha hb (by decide) (by decide) ⟨fun _ => ⟨lN_ne hg2 hg, fun X5 e5 => ⟨lN_ne hg2 hg, fun X7 e7 => ?_⟩⟩, fun c => absurd (cmp_pos hg2 hg) c⟩))
  rw [pk_lDiv (by omega) hg (by omega)] at e5 e7
  subst e5; subst e7
  exact hK
theorem lp_X11_fr {A B : Nat} (hA : A < 2 ^ 62) (hB : B < 2 ^ 62) (hg : 0 < Nat.gcd A B) (hg2 : Nat.gcd A B < 2 ^ 62) (hK : K 1 I (set2L (set2L X.1 129 3 (lN (A / Nat.gcd A B))) 129 4 (lN (B / Nat.gcd A B)), X.2)) : ∀ (k a b : Nat), a < 2 ^ 62 → b < 2 ^ k → k ≤ 40 → Nat.gcd a b = Nat.gcd A B → SR g (d + 1) iX11_fraction 6 [(0, rf g 129), (1, .long (lN A)), (3, .long (lN B)), (5, .long (lN a)), (7, .long (lN b))] I X (qI K) := by
  have fin : ∀ a, a = Nat.gcd A B → ¬ lN a = 0 ∧ ∀ X2 : XT, X2 = (set2L X.1 129 3 (lN A / lN a), X.2) → ¬ lN a = 0 ∧ ∀ X4 : XT, X4 = (set2L X2.1 129 4 (lN B / lN a), X2.2) → K 1 I X4 := by
    intro a e
    subst e
    rw [pk_lDiv (by omega) hg (by omega), pk_lDiv (by omega) hg (by omega)]
    refine ⟨lN_ne hg2 hg, fun X2 e2 => ⟨lN_ne hg2 hg, fun X4 e4 => ?_⟩⟩
    subst e2; subst e4
    exact hK
  intro k
  induction k with
  | zero =>
    intro a b ha hb hk e
    obtain rfl : b = 0 := by omega
    rw [Nat.gcd_zero_right] at e
    refine rg_X11_fraction_6 ?_
    rw [cmp_0 (by decide)]
    exact ⟨fun _ => fin a e, fun c => absurd rfl c⟩
  | succ k ih =>
    intro a b ha hb hk e
    have hp : (2 : Nat) ^ (k + 1) ≤ 2 ^ 40 := Nat.pow_le_pow_right (by decide) hk
    refine rg_X11_fraction_6 ?_
    rw [cmp_0 (by omega)]
    refine ⟨fun z => ?_, fun z => ⟨lN_ne (by omega) (by omega), fun x6 e6 => ?_⟩⟩
    · subst z
      rw [Nat.gcd_zero_right] at e
      exact fin a e
    · rw [pk_lRem (by omega) (by omega) (by omega)] at e6
      subst e6
      have hc : a % b < b := Nat.mod_lt _ (by omega)
      refine rg_X11_fraction_6 ?_
      rw [cmp_0 (by omega)]
      refine ⟨fun y => ?_, fun y => ⟨lN_ne (by omega) (by omega), fun x6 e6 => ?_⟩⟩
      · rw [← gcd_st, y, Nat.gcd_zero_right] at e
        exact fin b e
      · rw [pk_lRem (by omega) (by omega) (by omega)] at e6
        subst e6
        refine ih (a % b) (b % (a % b)) (by omega) (half (by omega) hc hb) (by omega) ?_
        rw [gcd_st, gcd_st]
        exact e
theorem c_X11_fraction {a b : Nat} (ha : a < 2 ^ 62) (hb : b < 2 ^ 40) (hg : 0 < Nat.gcd a b) (hK : K 1 I (set2L (set2L X.1 129 3 (lN (a / Nat.gcd a b))) 129 4 (lN (b / Nat.gcd a b)), X.2)) : CI g (d + 1) iX11_fraction [rf g 129, .long (lN a), .long (lN b)] I X K := by
  have hg2 : Nat.gcd a b < 2 ^ 62 := by
    by_cases z : b = 0
    · rw [z, Nat.gcd_zero_right]; exact ha
    · exact Nat.lt_of_le_of_lt (Nat.gcd_le_right a (by omega)) (by omega)
  exact en_X11_fraction (lp_X11_fr ha (by omega) hg hg2 hK 40 a b ha hb (by decide) rfl)
theorem iU_told {A B : Int64} : iU (set2L (set2L (set2L (set2L X.1 1 15 A) 1 16 B) 129 3 A) 129 4 B, X.2) := by
  unfold iU
  simp only [set2L_at]
  simp
theorem walk_all {goal wanted : Nat} : ∀ (r p : Nat) (F mv : Nat → Nat) (R : PR), (walkS n w goal wanted kd nd wd r p F mv R).2.2.1 ≤ R.2.2.1 + 37 ^ r
  | 0, p, F, mv, R => Nat.le_refl _
  | r + 1, p, F, mv, R => by
    rw [walkS_s]
    have key : ∀ (q i : Nat) (R : PR), (loopS (stepS n w goal wanted kd nd wd r p F mv) q i R).2.2.1 ≤ R.2.2.1 + q * 37 ^ r := by
      intro q
      induction q with
      | zero => exact fun _ _ => Nat.le_add_right _ _
      | succ q ih =>
        intro i R
        have h1 := ih (i + 1) (stepS n w goal wanted kd nd wd r p F mv i R)
        have h2 : (stepS n w goal wanted kd nd wd r p F mv i R).2.2.1 ≤ R.2.2.1 + 37 ^ r := by
          unfold stepS
          split
          · exact walk_all r (p + 1) _ _ R
          · exact Nat.le_add_right _ _
        show (loopS (stepS n w goal wanted kd nd wd r p F mv) q (i + 1) (stepS n w goal wanted kd nd wd r p F mv i R)).2.2.1 ≤ _
        rw [Nat.succ_mul]
        omega
    have := key 37 0 R
    rw [Nat.pow_succ, Nat.mul_comm (37 ^ r) 37]
    exact this
theorem op_ways {u v : Int32} (h : Inv I X) : PairI g (d + 15) iX10_ways iX11_ways [.int u, .int v] I X := by
  obtain ⟨n, w, kd, nd, wd, D, dd, S, hE, hV, hK⟩ := h.2.2.2.2.2
  have hn := hE.1.2.2
  obtain ⟨v1, v2, v3, v4, v5, v6, v7⟩ := id hV
  have hD := v1.1
  have hw := v1.2.2.1 D (Nat.le_refl D)
  refine en_X10_ways (c_X3_has hE (fun q => t_one ?_) (fun q => t_zero (en_X11_ways (c_X11_isHouse hE (fun z => absurd z q) (fun _ => t_zero ⟨rfl, h⟩)))))
  refine c_X10_isAhead (fun qv => t_one' ?_) (fun qv => t_zero' (en_X11_ways (c_X11_isHouse hE (fun _ => t_one (c_X11_in (fun z => absurd ((inB (n := 4) (by decide)).mp z) qv) (fun _ => t_zero' ⟨rfl, h⟩))) (fun z => absurd q z))))
  have hin := (inB (n := 4) (by decide)).mpr qv
  obtain ⟨j, hj, rfl⟩ := vp_in_of q (by omega)
  obtain ⟨hr, hr5, rfl⟩ := vp_in_of qv (by decide)
  refine c_X5_search (goal := 0) (wanted := j) (hours := hr) (by decide) (by omega) (by omega) hE v2.2.2.2 hw (by omega) (fun I1 h1 p1 => ?_)
  obtain ⟨e7, e8, e9⟩ := p1.2.2.2.2.2.1 (by decide)
  have hall : (allS n w 0 j hr kd nd wd (S D)).2.2.1 ≤ 37 ^ 4 := by
    have a1 : (allS n w 0 j hr kd nd wd (S D)).2.2.1 ≤ 0 + 37 ^ hr := walk_all hr 0 (S D) _ R00
    have a2 : 37 ^ hr ≤ 37 ^ 4 := Nat.pow_le_pow_right (by decide) (by omega)
    omega
  have h37 : (37 : Nat) ^ 4 = 1874161 := by decide
  have hg1 : 0 < Nat.gcd (allS n w 0 j hr kd nd wd (S D)).2.2.1 1 := by rw [Nat.gcd_one_right]; exact Nat.one_pos
  intro I9 e14
  rw [e8] at e14
  have e97 : I9 72 7 = nI (allS n w 0 j hr kd nd wd (S D)).2.2.1 := by rw [e14, set2_at, if_neg (by omega)]; exact e7
  rw [e97, nI_l (by omega), show (1 : Int64) = lN 1 from rfl]
  refine c_X10_tell (by omega) (by decide) hg1 ?_
  have hs9 : ∀ b k, b ≠ 1 → I9 b k = I1 b k := fun b k hb => by rw [e14, set2_at, if_neg (by omega)]
  have hE9 : iE I9 n w kd nd wd := hE.same (fun b k hb => by rw [hs9 b k (by omega), h1 b k (by omega)])
  have hF9 : FM I9 0 (S D) := FM0.mpr (fun k hk => by rw [hs9 142 k (by omega), h1 142 k (by omega)]; exact v6 k hk)
  refine en_X11_ways (c_X11_isHouse hE9 (fun _ => t_one (c_X11_in (fun _ => t_one' ?_) (fun z => absurd hin z))) (fun z => absurd q z))
  refine c_X11_allPlans (aim := 2) (goal := 0) (wanted := j) (hours := hr) (Or.inr (Or.inr (Or.inl ⟨rfl, rfl⟩))) (by omega) (by omega) hE9 hF9 hw (by omega) (fun I3 h3 p3 => ?_)
  rw [p3.2.1, nI_l (by omega), show (1 : Int64) = lN 1 from rfl]
  refine c_X11_fraction (by omega) (by decide) hg1 (c_X11_tells ⟨rfl, ?_⟩)
  rw [p3.2.2.1]
  refine inv_asked_out h (fun b k hb => ?_) iU_told
  unfold Out at hb
  rw [h3 b k (by omega), e14, set2_at, set2_at]
  by_cases z : b = 1 ∧ k = 14
  · rw [if_pos z, if_pos z]
  · rw [if_neg z, if_neg z, h1 b k (by omega)]
end T73
