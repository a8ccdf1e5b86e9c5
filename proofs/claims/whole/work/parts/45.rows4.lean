/-! ===== mean, copy, what is told ===== -/
def sm64 (f : Nat → Int32) : Nat → Int64
  | 0 => 0
  | n + 1 => sm64 f n + (f n).toInt64
theorem sm64_cong {f h : Nat → Int32} : ∀ {z : Nat}, (∀ k, k < z → f k = h k) → sm64 f z = sm64 h z
  | 0, _ => rfl
  | z + 1, e => by
    show sm64 f z + (f z).toInt64 = sm64 h z + (h z).toInt64
    rw [sm64_cong (fun k hk => e k (by omega)), e z (by omega)]
theorem i64_ne {z : Nat} (h0 : 0 < z) (hz : z < 2 ^ 31) : ¬ (nI z).toInt64 = 0 := by
  intro e
  have e1 : (nI z).toInt64.toInt = (0 : Int64).toInt := by rw [e]
  rw [Int32.toInt_toInt64, nI_toInt hz] at e1
  have e2 : (0 : Int64).toInt = 0 := rfl
  rw [e2] at e1
  omega
/-- longs that are sums of two ints -/
theorem l_add (a b : Int32) : (a.toInt64 + b.toInt64).toInt = a.toInt + b.toInt := by
  have h1 := Int32.toInt_lt a
  have h2 := Int32.le_toInt a
  have h3 := Int32.toInt_lt b
  have h4 := Int32.le_toInt b
  rw [Int64.toInt_add, Int32.toInt_toInt64, Int32.toInt_toInt64]
  exact Int.bmod_eq_of_le (by omega) (by omega)
theorem cmp_gt (x y : Int64) : 0 < lg_cmp x y ↔ y.toInt < x.toInt := by
  rw [← Int64.lt_iff_toInt_lt]
  unfold lg_cmp
  by_cases h : x > y
  · rw [if_pos h]; exact ⟨fun _ => h, fun _ => by decide⟩
  · rw [if_neg h]
    refine ⟨fun q => ?_, fun q => absurd q h⟩
    by_cases e : x = y
    · rw [if_pos e] at q; exact absurd q (by decide)
    · rw [if_neg e] at q; exact absurd q (by decide)
theorem cmp_le (x y : Int64) : lg_cmp x y ≤ 0 ↔ x.toInt ≤ y.toInt := by
  have h := cmp_gt x y
  rw [← Int32.not_lt, h]
  omega
/-- a span of n places from i on, in a row of z -/
theorem span_sub {z : Nat} {n i : Int32} (hz : z ≤ 60) (hn : 0 ≤ n) : (nI z - n < i) ↔ (z : Int) < i.toInt + n.toInt := by
  have h1 := Int32.toInt_lt n
  have h2 : (0 : Int) ≤ n.toInt := by simpa [i_le, Int32.reduceToInt] using hn
  rw [i_lt, Int32.toInt_sub, nI_toInt (by omega), Int.bmod_eq_of_le (by omega) (by omega)]
  omega
section T45
variable {g : OG} {d : Nat} {I : IT} {X : XT} {K : Int32 → IT → XT → Prop} {KV : IT → XT → Prop} {KL : Int64 → IT → XT → Prop}
theorem lp_X7_sum {a z : Nat} (ha : a ∈ rowL) (hz : I a 1 = nI z) (hz2 : z ≤ 40) (hK : KL (sm64 (I (a + 1)) z) I X) : ∀ (m i : Nat), i + m = z → SR g (d + 1) iX7_sum 4 [(0, rf g a), (1, .long (sm64 (I (a + 1)) i)), (3, .int (nI i))] I X (qL KL) := by
  intro m
  induction m with
  | zero =>
    intro i hi
    obtain rfl : i = z := by omega
    refine rg_X7_sum_4 ha ?_
    rw [hz]
    exact ⟨fun _ => hK, fun c => absurd (nI_le (by omega) (by omega)) c⟩
  | succ m ih =>
    intro i hi
    refine rg_X7_sum_4 ha ?_
    rw [hz, nI_clamp (by omega), nI_1]
    refine ⟨fun c => absurd c (nI_ge (by omega) (by omega)), fun c => ⟨vp_in_nI (by omega) (by decide), fun x2 e2 x3 e3 => ?_⟩⟩
    subst e2; subst e3
    exact ih (i + 1) (by omega)
theorem c_X7_sum {a z : Nat} (ha : a ∈ rowL) (hz : I a 1 = nI z) (hz2 : z ≤ 40) (hK : KL (sm64 (I (a + 1)) z) I X) : CL g (d + 1) iX7_sum [rf g a] I X KL :=
  en_X7_sum ha (lp_X7_sum ha hz hz2 hK z 0 (by omega))
theorem lp_X11_mean {j z : Nat} (hj : j < 6) (h0 : 0 < z) (hz : I 131 j = nI z) (hz2 : z ≤ 40) (hK : K 1 (set2 I 129 2 ((sm64 (fun k => I 132 (40 * j + k)) z / (nI z).toInt64).toInt32)) X) : ∀ (m i : Nat), i + m = z → SR g (d + 2) iX11_mean 44 [(0, rf g 129), (1, .int (nI j)), (2, .long (sm64 (fun k => I 132 (40 * j + k)) i)), (4, .int (nI i))] I X (qI K) := by
  have tc : (nI j).toNatClampNeg = j := nI_clamp (by omega)
  have hi6 : vp_in (nI j) 6 := vp_in_nI hj (by decide)
  intro m
  induction m with
  | zero =>
    intro i hi
    obtain rfl : i = z := by omega
    refine rg_X11_mean_44 ?_
    rw [tc, hz]
    exact ⟨hi6, fun _ => ⟨hi6, i64_ne h0 (by omega), c_X11_tells hK⟩, fun c => absurd (nI_le (by omega) (by omega)) c⟩
  | succ m ih =>
    intro i hi
    refine rg_X11_mean_44 ?_
    rw [tc, hz]
    refine ⟨hi6, fun c => absurd c (nI_ge (by omega) (by omega)), fun c => c_X11_rowAt hj (by omega) (fun x2 e2 x3 e3 => ?_)⟩
    subst e2; subst e3
    rw [nI_1]
    exact ih (i + 1) (by omega)
theorem op_mean {a : Int32} (h : Inv I X) : PairI g (d + 3) iX10_mean iX11_mean [.int a] I X := by
  by_cases ha : vp_in a 6
  · obtain ⟨j, hj, rfl⟩ := vp_in_of ha (by decide)
    have tc : (nI j).toNatClampNeg = j := nI_clamp (by omega)
    obtain ⟨g1, g2⟩ := h.2.2.2.1 j hj
    refine en_X10_mean (c_X10_isRow (fun _ => t_one' ?_) (fun q => absurd ha q))
    rw [tc]
    refine ⟨ha, ?_⟩
    rcases g2 with g2 | ⟨z, hz, g2, g3⟩
    · refine c_X7_isThere (rowA_mem hj) (fun c => absurd (by rw [g1, g2]; exact m1_lt) c) (fun _ => t_zero' (c_X10_found 1 rfl (by decide) ?_))
      refine en_X11_mean (c_X11_isRow (fun _ => t_one' ?_) (fun q => absurd ha q))
      have e0 : fndC I 1 131 j = (-1) := by unfold fndC; rw [set2_at, if_neg (by omega), set2_at, if_neg (by omega)]; exact g2
      rw [tc, e0]
      exact ⟨ha, fun q => absurd q m1_nle, fun _ => c_X11_meets 1 rfl (by decide) ⟨rfl, inv_found (by decide) h⟩⟩
    · refine c_X7_isThere (rowA_mem hj) (fun _ => t_one' ?_) (fun c => absurd c (by rw [g1, g2]; exact nI_pos (by omega)))
      rw [g1, g2]
      rcases Nat.eq_zero_or_pos z with hz0 | hz0
      · subst hz0
        refine ⟨fun c => absurd rfl c, fun _ => c_X10_found 4 rfl (by decide) ?_⟩
        refine en_X11_mean (c_X11_isRow (fun _ => t_one' ?_) (fun q => absurd ha q))
        have e0 : fndC I 4 131 j = nI 0 := by unfold fndC; rw [set2_at, if_neg (by omega), set2_at, if_neg (by omega)]; exact g2
        rw [tc, e0]
        exact ⟨ha, fun _ => ⟨ha, fun c => absurd rfl c, fun _ => c_X11_meets 4 rfl (by decide) ⟨rfl, inv_found (by decide) h⟩⟩, fun c => absurd (by decide) c⟩
      · refine ⟨fun _ => c_X7_sum (rowA_mem hj) (g1.trans g2) hz ?_, fun c => absurd c (nI_ne0 hz0 (by omega))⟩
        rw [g1, g2]
        refine ⟨i64_ne hz0 (by omega), fun I1 e1 => ?_⟩
        subst e1
        refine en_X11_mean (c_X11_isRow (fun _ => t_one' ?_) (fun q => absurd ha q))
        generalize hv : (sm64 (I (rowA j + 1)) z / (nI z).toInt64).toInt32 = v
        have e0 : set2 I 1 14 v 131 j = nI z := by rw [set2_at, if_neg (by omega)]; exact g2
        rw [tc, e0]
        refine ⟨ha, fun _ => ⟨ha, fun _ => lp_X11_mean hj hz0 e0 hz ?_ z 0 (by omega), fun c => absurd c (nI_ne0 hz0 (by omega))⟩, fun c => absurd (nI_pos' (by omega)) c⟩
        have e3 : sm64 (fun k => set2 I 1 14 v 132 (40 * j + k)) z = sm64 (I (rowA j + 1)) z := sm64_cong (fun k hk => by rw [set2_at, if_neg (by omega)]; exact (g3 k hk).symm)
        rw [e3, hv]
        exact ⟨rfl, inv_asked h⟩
  · exact en_X10_mean (c_X10_isRow (fun q => absurd q ha) (fun _ => t_zero' (en_X11_mean (c_X11_isRow (fun q => absurd q ha) (fun _ => t_zero' ⟨rfl, h⟩)))))
theorem op_asked (h : Inv I X) : PairI g (d + 1) iX10_asked iX11_asked [] I X := en_X10_asked (en_X11_asked ⟨h.2.1.symm, h⟩)
theorem op_finding (h : Inv I X) : PairI g (d + 1) iX10_finding iX11_finding [] I X := en_X10_finding (en_X11_finding ⟨h.1.1.symm, h⟩)
theorem op_upper (h : Inv I X) : PairL g (d + 1) iX10_upper iX11_upper [] I X := en_X10_upper (en_X11_upper ⟨h.2.2.1.1.symm, h⟩)
theorem op_lower (h : Inv I X) : PairL g (d + 1) iX10_lower iX11_lower [] I X := en_X10_lower (en_X11_lower ⟨h.2.2.1.2.symm, h⟩)
theorem op_findings {a : Int32} (h : Inv I X) : PairI g (d + 2) iX10_findings iX11_findings [.int a] I X := by
  by_cases ha : (1 : Int32) ≤ a ∧ a ≤ 5
  · have hv : vp_in a 6 := by simp only [vp_in_iff, i_le, Int32.reduceToInt] at *; omega
    have hl : a.toNatClampNeg < 6 := vin_lt_row hv
    refine en_X10_findings ⟨fun c => absurd ha.1 (Int32.not_le.mpr c), fun _ => ⟨fun _ => ⟨hv, en_X11_findings (c_X11_in (fun _ => t_one ⟨hv, ⟨(h.1.2 _ hl).symm, h⟩⟩) (fun q => absurd ha q))⟩, fun c => absurd ha.2 c⟩⟩
  · refine en_X10_findings ⟨fun c => ?_, fun c => ⟨fun c2 => absurd ⟨Int32.not_lt.mp c, c2⟩ ha, fun c2 => ?_⟩⟩
    · exact en_X11_findings (c_X11_in (fun q => absurd q ha) (fun _ => t_zero ⟨rfl, h⟩))
    · exact en_X11_findings (c_X11_in (fun q => absurd q ha) (fun _ => t_zero ⟨rfl, h⟩))
end T45
