/-! ===== hides ===== -/
def uniN (mm : Nat → Nat) : Nat → Nat
  | 0 => 0
  | i + 1 => uniN mm i ||| mm i
def hidF (b : Nat) : Nat → Nat → Int32
  | 0, _ => -9
  | q + 1, i => if b / 2 ^ i % 2 = 1 then nI i else hidF b q (i + 1)
theorem hid_all : ∀ u, u < 32 → ∀ y, y < 32 → nI u &&& (nI y ^^^ (-1)) = nI (u - (u &&& y)) := by decide +kernel
section T64
variable {g : OG} {d : Nat} {I : IT} {X : XT} {K : Int32 → IT → XT → Prop} {KV : IT → XT → Prop}
variable {n w : Nat} {kd nd wd : Nat → Nat} {F : Nat → Nat} {m f a D : Nat} {dd : Nat → Nat} {S : Nat → Nat → Nat}
theorem uniN_lt {mm : Nat → Nat} : ∀ {i : Nat}, (∀ k, k < i → mm k < 32) → uniN mm i < 2 ^ 5
  | 0, _ => show 0 < 2 ^ 5 by decide
  | i + 1, h => Nat.or_lt_two_pow (uniN_lt (fun k hk => h k (by omega))) (h i (by omega))
theorem lp_X11_needBook {j z : Nat} (hj : j < 6) (he : iE I n w kd nd wd) (hz : I 131 j = nI z) (hz2 : z ≤ 40) (hT : (∀ k, k < z → 0 ≤ I 132 (40 * j + k) ∧ I 132 (40 * j + k) ≤ nI (2 ^ n - 1)) → K 0 I X) (hF : (∃ k, k < z ∧ ¬ (0 ≤ I 132 (40 * j + k) ∧ I 132 (40 * j + k) ≤ nI (2 ^ n - 1))) → K (-3) (fndM I 3) X) : ∀ (q i : Nat) (b : Int32), i + q = z → (b = 1 ∧ (∀ k, k < i → 0 ≤ I 132 (40 * j + k) ∧ I 132 (40 * j + k) ≤ nI (2 ^ n - 1)) ∨ b = 0 ∧ ∃ k, k < i ∧ ¬ (0 ≤ I 132 (40 * j + k) ∧ I 132 (40 * j + k) ≤ nI (2 ^ n - 1))) → SR g (d + 2) iX11_needBook 63 [(0, rf g 129), (1, .int (nI j)), (3, .int b), (4, .int (nI i))] I X (qI K) := by
  intro q
  induction q with
  | zero =>
    intro i b hi2 hk
    obtain rfl : i = z := by omega
    refine rg_X11_needBook_63 ?_
    rw [nI_clamp (by omega), hz]
    refine ⟨vp_in_nI (by omega) (by decide), fun _ => ?_, fun c => absurd (Int32.le_refl _) c⟩
    rcases hk with ⟨rfl, hk⟩ | ⟨rfl, hk⟩
    · exact t_one (hT hk)
    · exact t_zero (c_X11_meets 3 rfl (by decide) (hF hk))
  | succ q ih =>
    intro i b hi2 hk
    refine rg_X11_needBook_63 ?_
    rw [nI_clamp (by omega), hz]
    refine ⟨vp_in_nI (by omega) (by decide), fun c => absurd c (nI_ge (by omega) (by omega)), fun _ => ?_⟩
    rcases hk with ⟨rfl, hk⟩ | ⟨rfl, k, hk1, hk2⟩
    · refine t_one (c_X11_rowAt hj (by omega) (c_X11_everybody he (c_X11_in (fun c => t_one (fun x3 e3 => ?_)) (fun c => t_zero (fun x3 e3 => ?_)))))
      · subst e3
        rw [nI_1]
        refine ih (i + 1) 1 (by omega) (Or.inl ⟨rfl, fun k hk2 => ?_⟩)
        by_cases e : k = i
        · subst e; exact c
        · exact hk k (by omega)
      · subst e3
        rw [nI_1]
        exact ih (i + 1) 0 (by omega) (Or.inr ⟨rfl, i, by omega, c⟩)
    · refine t_zero (fun x3 e3 => ?_)
      subst e3
      rw [nI_1]
      exact ih (i + 1) 0 (by omega) (Or.inr ⟨rfl, k, by omega, hk2⟩)
theorem c_X11_needBook {j : Nat} {fl : Int32} (hj : j < 6) (hfl : ¬ fl = 0) (hn0 : 0 < n) (he : iE I n w kd nd wd) (hr : I 131 j = (-1) ∨ ∃ z, z ≤ 40 ∧ I 131 j = nI z)
    (hM : I 131 j = (-1) → K (-3) (fndM I 1) X)
    (hS : ∀ z, z ≤ 40 → I 131 j = nI z → ¬ (1 ≤ z ∧ z ≤ 5) → K (-3) (fndM I 5) X)
    (hF : ∀ z, I 131 j = nI z → 1 ≤ z → z ≤ 5 → (∃ k, k < z ∧ ¬ (0 ≤ I 132 (40 * j + k) ∧ I 132 (40 * j + k) ≤ nI (2 ^ n - 1))) → K (-3) (fndM I 3) X)
    (hT : ∀ z, I 131 j = nI z → 1 ≤ z → z ≤ 5 → (∀ k, k < z → 0 ≤ I 132 (40 * j + k) ∧ I 132 (40 * j + k) ≤ nI (2 ^ n - 1)) → K 0 I X) :
    CI g (d + 3) iX11_needBook [rf g 129, .int (nI j), .int fl] I X K := by
  have hn := he.1.2.2
  have hq : vp_in (nI j) 6 := vp_in_nI hj (by decide)
  refine en_X11_needBook ⟨fun z => absurd z hfl, fun _ => c_X11_isRow (fun _ => t_one' ?_) (fun z => absurd hq z)⟩
  rw [he.1.2.1, nI_clamp (by omega)]
  refine ⟨fun _ => ⟨hq, ?_⟩, fun z => absurd z (nI_ne0 hn0 (by omega))⟩
  rcases hr with g2 | ⟨z, hz, g2⟩
  · rw [g2]
    exact ⟨fun c => absurd c m1_nle, fun _ => c_X11_meets 1 rfl (by decide) (hM g2)⟩
  · rw [g2]
    refine ⟨fun _ => ⟨hq, c_X11_in (fun c => t_one' ?_) (fun c => t_zero' (c_X11_meets 5 rfl (by decide) (hS z hz g2 (fun y => c ⟨nI_le (a := 1) y.1 (by omega), nI_le (b := 5) y.2 (by decide)⟩))))⟩, fun c => absurd (nI_pos' (by omega)) c⟩
    have c1 : 1 ≤ z := (nI_leI (a := 1) (by decide) (by omega)).mp c.1
    have c2 : z ≤ 5 := (nI_leI (b := 5) (by omega) (by decide)).mp c.2
    exact lp_X11_needBook hj he g2 hz (hT z g2 c1 c2) (hF z g2 c1 c2) z 0 1 (by omega) (Or.inl ⟨rfl, fun k hk => absurd hk (Nat.not_lt_zero k)⟩)
theorem lp_X7_union {j z : Nat} {mm : Nat → Nat} (hj : j < 6) (hz : I (rowA j) 1 = nI z) (hz2 : z ≤ 40) (hv : ∀ k, k < z → I (rowA j + 1) k = nI (mm k)) (hK : K (nI (uniN mm z)) I X) : ∀ (q i : Nat), i + q = z → SR g (d + 1) iX7_union 4 [(0, rf g (rowA j)), (1, .int (nI (uniN mm i))), (2, .int (nI i))] I X (qI K) := by
  intro q
  induction q with
  | zero =>
    intro i hi
    obtain rfl : i = z := by omega
    refine rg_X7_union_4 (rowA_mem hj) ?_
    rw [hz]
    exact ⟨fun _ => hK, fun c => absurd (Int32.le_refl _) c⟩
  | succ q ih =>
    intro i hi
    refine rg_X7_union_4 (rowA_mem hj) ?_
    rw [hz, nI_clamp (by omega), hv i (by omega), i_or]
    refine ⟨fun c => absurd c (nI_ge (by omega) (by omega)), fun _ => ⟨vp_in_nI (by omega) (by decide), fun x2 e2 x3 e3 => ?_⟩⟩
    subst e2; subst e3
    rw [nI_1]
    exact ih (i + 1) (by omega)
theorem lp_X11_hides27 {j z y : Nat} {mm : Nat → Nat} (hj : j < 6) (hz : I 131 j = nI z) (hz2 : z ≤ 40) (hv : ∀ k, k < z → I 132 (40 * j + k) = nI (mm k)) (hK : SR g (d + 2) iX11_hides 59 [(0, rf g 129), (2, .int (nI y)), (4, .int (nI (uniN mm z))), (5, .int (nI 0))] I X (qI K)) : ∀ (q i : Nat), i + q = z → SR g (d + 2) iX11_hides 27 [(0, rf g 129), (1, .int (nI j)), (2, .int (nI y)), (4, .int (nI (uniN mm i))), (5, .int (nI i))] I X (qI K) := by
  intro q
  induction q with
  | zero =>
    intro i hi
    obtain rfl : i = z := by omega
    refine rg_X11_hides_27 ?_
    rw [nI_clamp (by omega), hz]
    exact ⟨vp_in_nI (by omega) (by decide), fun _ => hK, fun c => absurd (Int32.le_refl _) c⟩
  | succ q ih =>
    intro i hi
    refine rg_X11_hides_27 ?_
    rw [nI_clamp (by omega), hz]
    refine ⟨vp_in_nI (by omega) (by decide), fun c => absurd c (nI_ge (by omega) (by omega)), fun _ => c_X11_rowAt hj (by omega) (fun x5 e5 x6 e6 => ?_)⟩
    rw [hv i (by omega), i_or] at e5
    subst e5; subst e6
    rw [nI_1]
    exact ih (i + 1) (by omega)
theorem lp_X10_hides {b : Nat} (hb : b < 32) (he : iE I n w kd nd wd) : ∀ (q i : Nat), i + q = n → K (hidF b q i) I X → SR g (d + 1) iX10_hides 84 [(0, rf g 1), (5, .int (nI b)), (6, .int (nI i))] I X (qI K) := by
  have hn := he.1.2.2
  intro q
  induction q with
  | zero =>
    intro i hi hK
    obtain rfl : i = n := by omega
    refine rg_X10_hides_84 ?_
    rw [he.1.1]
    exact ⟨fun _ => hK, fun c => absurd (Int32.le_refl _) c⟩
  | succ q ih =>
    intro i hi hK
    refine rg_X10_hides_84 ?_
    rw [he.1.1, bit_at (by omega) (by omega)]
    have e : nI (b / 2 ^ i % 2) = 0 ↔ b / 2 ^ i % 2 = 0 := nI_eqL 0 (by omega) (by decide)
    rw [e]
    unfold hidF at hK
    refine ⟨fun c => absurd c (nI_ge (by omega) (by omega)), fun _ => ⟨fun c x1 e1 => ?_, fun c => ?_⟩⟩
    · subst e1
      rw [if_neg (by omega)] at hK
      rw [nI_1]
      exact ih (i + 1) (by omega) hK
    · rw [if_pos (by omega)] at hK
      exact hK
theorem lp_X11_hides59 {u y : Nat} (hu : u < 32) (hy : y < 32) (he : iE I n w kd nd wd) : ∀ (q i : Nat), i + q = n → K (hidF (u - (u &&& y)) q i) I X → SR g (d + 2) iX11_hides 59 [(0, rf g 129), (2, .int (nI y)), (4, .int (nI u)), (5, .int (nI i))] I X (qI K) := by
  have hn := he.1.2.2
  intro q
  induction q with
  | zero =>
    intro i hi hK
    obtain rfl : i = n := by omega
    refine rg_X11_hides_59 ?_
    rw [he.1.2.1]
    exact ⟨fun _ => hK, fun c => absurd (Int32.le_refl _) c⟩
  | succ q ih =>
    intro i hi hK
    refine rg_X11_hides_59 ?_
    rw [he.1.2.1, hid_all u hu y hy]
    unfold hidF at hK
    refine ⟨fun c => absurd c (nI_ge (by omega) (by omega)), fun _ => c_X11_has (by omega) (by omega) (fun c => t_one ?_) (fun c => t_zero (fun x4 e4 => ?_))⟩
    · rw [if_pos c] at hK
      exact hK
    · subst e4
      rw [if_neg c] at hK
      rw [nI_1]
      exact ih (i + 1) (by omega) hK
theorem op_hides {u v : Int32} (h : Inv I X) : PairI g (d + 5) iX10_hides iX11_hides [.int u, .int v] I X := by
  obtain ⟨n, w, kd, nd, wd, D, dd, S, hE, hV, hK⟩ := h.2.2.2.2.2
  have hn := hE.1.2.2
  have e10 : nI n = 0 ↔ n = 0 := nI_eqL 0 (by omega) (by decide)
  have h32 : (2 : Nat) ^ n ≤ 2 ^ 5 := Nat.pow_le_pow_right (by decide) hn
  have h2p : 0 < 2 ^ n := Nat.two_pow_pos n
  -- where the answer is -1
  have bad : ¬ (vp_in u 6 ∧ 0 ≤ v ∧ v ≤ nI (2 ^ n - 1)) → CI g (d + 5) iX11_hides [rf g 129, .int u, .int v] I X (fun r' I2 X2 => r' = -1 ∧ Inv I2 X2) := by
    intro hb
    refine en_X11_hides (c_X11_everybody hE (c_X11_in (fun c => ?_) (fun c => en_X11_needBook ⟨fun _ => ⟨fun z => absurd z m1_nle, fun _ => ⟨rfl, h⟩⟩, fun z => absurd rfl z⟩)))
    refine en_X11_needBook ⟨fun z => absurd z (by decide), fun _ => c_X11_isRow (fun z => absurd ⟨z, c⟩ hb) (fun _ => t_zero' ⟨fun z => absurd z m1_nle, fun _ => ⟨rfl, h⟩⟩)⟩
  refine en_X10_hides (c_X10_isRow (fun q => t_one ?_) (fun q => t_zero (bad (fun z => q z.1))))
  obtain ⟨j, hj, rfl⟩ := vp_in_of q (by decide)
  have tc : (nI j).toNatClampNeg = j := nI_clamp (by omega)
  refine ⟨fun c => bad (fun z => absurd z.2.1 (Int32.not_le.mpr c)), fun c => c_X3_allHouses hE ⟨fun c2 => ?_, fun c2 => bad (fun z => c2 z.2.2)⟩⟩
  have hv : 0 ≤ v ∧ v ≤ nI (2 ^ n - 1) := ⟨Int32.not_lt.mp c, c2⟩
  obtain ⟨y, hy, rfl⟩ := vp_in_of ((inB (n := 2 ^ n - 1) (by omega)).mp hv) (by omega)
  refine c_X3_isEmpty hE (fun q0 => t_one ?_) (fun q0 => t_zero ⟨q, c_X3_allHouses hE ?_⟩)
  · refine en_X11_hides (c_X11_everybody hE (c_X11_in (fun c => ?_) (fun z => absurd hv z)))
    refine en_X11_needBook ⟨fun z => absurd z (by decide), fun _ => c_X11_isRow (fun _ => t_one' ?_) (fun z => absurd q z)⟩
    rw [hE.1.2.1, e10]
    exact ⟨fun z => absurd q0 z, fun _ => ⟨fun z => absurd z (by decide), fun _ => ⟨rfl, h⟩⟩⟩
  rw [tc]
  have hrow : ∀ f, fndC I f 131 j = (-1) ∨ ∃ z, z ≤ 40 ∧ fndC I f 131 j = nI z := by
    intro f
    rw [fndC_at (by omega)]
    rcases (h.2.2.2.1 j hj).2 with g2 | ⟨z, hz, g2, _⟩
    · exact Or.inl g2
    · exact Or.inr ⟨z, hz, g2⟩
  have hEf : ∀ f, iE (fndC I f) n w kd nd wd := fun f => hE.same (fun b k hb => fndC_at (by omega))
  have n3 : ¬ (0 : Int32) ≤ -3 := by decide
  refine c_X7_sizeRange (lo := 1) (up := 5) hj h.2.2.2.1 (by decide) (by decide) (fun g2 => ?_) (fun z hz g2 hs => ?_) (fun z g2 hz1 hz hb => ?_) (fun z g1 g2 hz1 hz g3 hb => ?_)
  · refine ⟨fun c => absurd c (by decide), fun _ => c_X10_found 1 rfl (by decide) ?_⟩
    refine en_X11_hides (c_X11_everybody (hEf 1) (c_X11_in (fun c => ?_) (fun z => absurd hv z)))
    refine c_X11_needBook hj (by decide) q0 (hEf 1) (hrow 1) (fun _ => ⟨fun z => absurd z n3, fun _ => ⟨rfl, inv_found (by decide) h⟩⟩) (fun z hz e _ => ?_) (fun z e _ h5 _ => ?_) (fun z e _ h5 _ => ?_)
    all_goals
      rw [fndC_at (by omega), g2] at e
      exact absurd (e ▸ nI_pos' (by omega)) m1_nle
  · refine ⟨fun c => absurd c (by decide), fun _ => c_X10_found 5 rfl (by decide) ?_⟩
    refine en_X11_hides (c_X11_everybody (hEf 5) (c_X11_in (fun c => ?_) (fun z => absurd hv z)))
    refine c_X11_needBook hj (by decide) q0 (hEf 5) (hrow 5) (fun e => ?_) (fun _ _ _ _ => ⟨fun z => absurd z n3, fun _ => ⟨rfl, inv_found (by decide) h⟩⟩) (fun z2 e h1 h5 _ => ?_) (fun z2 e h1 h5 _ => ?_)
    · rw [fndC_at (by omega), g2] at e
      exact absurd (e ▸ nI_pos' (by omega)) m1_nle
    all_goals
      rw [fndC_at (by omega), g2] at e
      have := (nI_eq (a := z) (b := z2) (by omega) (by omega)).mp e
      omega
  · refine ⟨fun c => absurd c (by decide), fun _ => c_X10_found 3 rfl (by decide) ?_⟩
    refine en_X11_hides (c_X11_everybody (hEf 3) (c_X11_in (fun c => ?_) (fun z => absurd hv z)))
    refine c_X11_needBook hj (by decide) q0 (hEf 3) (hrow 3) (fun e => ?_) (fun z2 hz2 e h2 => ?_) (fun _ _ _ _ _ => ⟨fun z => absurd z n3, fun _ => ⟨rfl, inv_found (by decide) h⟩⟩) (fun z2 e h1 h5 ha => ?_)
    · rw [fndC_at (by omega), g2] at e
      exact absurd (e ▸ nI_pos' (by omega)) m1_nle
    · rw [fndC_at (by omega), g2] at e
      have := (nI_eq (a := z) (b := z2) (by omega) (by omega)).mp e
      omega
    · rw [fndC_at (by omega), g2] at e
      have := (nI_eq (a := z) (b := z2) (by omega) (by omega)).mp e
      subst this
      obtain ⟨k, hk1, hk2⟩ := hb
      have := ha k hk1
      rw [fndC_at (by omega)] at this
      exact absurd this hk2
  · have hmv : ∀ k, k < z → I 132 (40 * j + k) = nI (I 132 (40 * j + k)).toNatClampNeg ∧ (I 132 (40 * j + k)).toNatClampNeg < 32 := by
      intro k hk
      obtain ⟨u, hu, e⟩ := vp_in_of ((inB (n := 2 ^ n - 1) (by omega)).mp (hb k hk)) (by omega)
      rw [e, nI_clamp (by omega)]
      exact ⟨rfl, by omega⟩
    generalize hmm : (fun k => (I 132 (40 * j + k)).toNatClampNeg) = mm at *
    have hmv' : ∀ k, k < z → I 132 (40 * j + k) = nI (mm k) ∧ mm k < 32 := by
      intro k hk
      rw [← hmm]
      exact hmv k hk
    have hu : uniN mm z < 32 := uniN_lt (fun k hk => (hmv' k hk).2)
    refine t_zero (en_X7_union (rowA_mem hj) (lp_X7_union (mm := mm) hj g1 (by omega) (fun k hk => by rw [g3 k hk]; exact (hmv' k hk).1) (fun x20 e20 => ?_) z 0 (by omega)))
    rw [hid_all _ hu y (by omega)] at e20
    subst e20
    refine lp_X10_hides (b := uniN mm z - (uniN mm z &&& y)) (by omega) hE n 0 (by omega) ?_
    refine en_X11_hides (c_X11_everybody hE (c_X11_in (fun c => ?_) (fun z => absurd hv z)))
    refine c_X11_needBook hj (by decide) q0 hE (Or.inr ⟨z, by omega, g2⟩) (fun e => ?_) (fun z2 hz2 e h2 => ?_) (fun z2 e h1 h5 hbad => ?_) (fun _ _ _ _ _ => ⟨fun _ => ?_, fun z => absurd (by decide) z⟩)
    · rw [g2] at e
      exact absurd (e ▸ nI_pos' (by omega)) m1_nle
    · rw [g2] at e
      have := (nI_eq (a := z) (b := z2) (by omega) (by omega)).mp e
      omega
    · rw [g2] at e
      have := (nI_eq (a := z) (b := z2) (by omega) (by omega)).mp e
      subst this
      obtain ⟨k, hk1, hk2⟩ := hbad
      exact absurd (hb k hk1) hk2
    · refine lp_X11_hides27 (mm := mm) hj g2 (by omega) (fun k hk => (hmv' k hk).1) ?_ z 0 (by omega)
      exact lp_X11_hides59 hu (by omega) hE n 0 (by omega) ⟨rfl, h⟩
end T64
