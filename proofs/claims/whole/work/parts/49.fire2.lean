/-! ===== what changes a Fire ===== -/
def SF (a : Nat) (I I' : IT) : Prop := Same (fun b _ => a ≤ b ∧ b ≤ a + 2) I I'
theorem passI_b {n i : Nat} {kd F : Nat → Nat} (hi : i < 5) (hb : F (10 + i) = 1) : passI n (i + 1) kd F = mW (mW (passI n i kd F) i (F i - takeN (kd i) (F 15))) (10 + i) (if 0 < F i - takeN (kd i) (F 15) then 1 else 0) := by
  funext j
  simp only [mW_at]
  unfold passI
  by_cases h1 : j = 10 + i
  · rw [if_pos h1, if_neg (by omega), if_neg (by omega), if_pos (by omega)]
    subst h1
    rw [show 10 + i - 10 = i by omega]
    unfold houB
    rw [if_pos hb]
  · rw [if_neg h1]
    by_cases h2 : j = i
    · rw [if_pos h2, if_pos (by omega)]
      subst h2
      unfold houW
      rw [if_pos hb]
    · rw [if_neg h2]
      by_cases h3 : j < i
      · rw [if_pos h3, if_pos (by omega)]
      · rw [if_neg h3, if_neg (by omega)]
        by_cases h4 : j = 5 + i
        · subst h4
          rw [if_pos (by omega), if_neg (by omega), if_neg (by omega), show 5 + i - 5 = i by omega]
          unfold houD
          rw [if_pos hb]
        · by_cases h5 : 5 ≤ j ∧ j < 5 + i
          · rw [if_pos h5, if_pos (by omega)]
          · rw [if_neg h5, if_neg (by omega)]
            by_cases h6 : 10 ≤ j ∧ j < 10 + i
            · rw [if_pos h6, if_pos (by omega)]
            · rw [if_neg h6, if_neg (by omega)]
theorem passI_n {n i : Nat} {kd F : Nat → Nat} (hi : i < 5) (hb : ¬ F (10 + i) = 1) : passI n (i + 1) kd F = mW (passI n i kd F) (5 + i) (F (5 + i) - besB n F i) := by
  funext j
  simp only [mW_at]
  unfold passI
  by_cases h1 : j = 5 + i
  · rw [if_pos h1, if_neg (by omega), if_pos (by omega)]
    subst h1
    rw [show 5 + i - 5 = i by omega]
    unfold houD
    rw [if_neg hb]
  · rw [if_neg h1]
    by_cases h2 : j = i
    · subst h2
      rw [if_pos (by omega), if_neg (by omega), if_neg (by omega), if_neg (by omega)]
      unfold houW
      rw [if_neg hb]
    · by_cases h3 : j < i
      · rw [if_pos h3, if_pos (by omega)]
      · rw [if_neg h3, if_neg (by omega)]
        by_cases h5 : 5 ≤ j ∧ j < 5 + i
        · rw [if_pos h5, if_pos (by omega)]
        · rw [if_neg h5, if_neg (by omega)]
          by_cases h4 : j = 10 + i
          · subst h4
            rw [if_pos (by omega), if_neg (by omega), show 10 + i - 10 = i by omega]
            unfold houB
            rw [if_neg hb]
          · by_cases h6 : 10 ≤ j ∧ j < 10 + i
            · rw [if_pos h6, if_pos (by omega)]
            · rw [if_neg h6, if_neg (by omega)]
theorem passI_0 {n : Nat} {kd F : Nat → Nat} : passI n 0 kd F = F := by
  funext j
  unfold passI
  rw [if_neg (by omega), if_neg (by omega), if_neg (by omega)]
theorem passI_at {n i : Nat} {kd F : Nat → Nat} {j : Nat} (hi : i < 5) : passI n i kd F i = F i ∧ passI n i kd F (5 + i) = F (5 + i) ∧ passI n i kd F (10 + i) = F (10 + i) := by
  unfold passI
  refine ⟨?_, ?_, ?_⟩
  · rw [if_neg (by omega), if_neg (by omega), if_neg (by omega)]
  · rw [if_neg (by omega), if_neg (by omega), if_neg (by omega)]
  · rw [if_neg (by omega), if_neg (by omega), if_neg (by omega)]
theorem passI_hi {n i : Nat} {kd F : Nat → Nat} {j : Nat} (hi : i ≤ 5) (hj : 15 ≤ j) : passI n i kd F j = F j := by
  unfold passI
  rw [if_neg (by omega), if_neg (by omega), if_neg (by omega)]
theorem sub_max {x t : Nat} (hx : x < 1000) (ht : t < 1000) : (if 0 < nI x - nI t then nI x - nI t else 0 : Int32) = nI (x - t) := by
  have e : (nI x - nI t).toInt = (x : Int) - t := pk_sub_toInt (by omega) (by omega)
  by_cases c : t < x
  · rw [if_pos (by rw [i_lt, e, i_t0]; omega), pk_sub (by omega)]
  · rw [if_neg (by rw [i_lt, e, i_t0]; omega), show x - t = 0 by omega]
    rfl
theorem bes_all : ∀ b, b < 32 → ∀ i, i < 5 → ((nI b &&& (((1 <<< (nI i &&& 31)) >>> (1 &&& 31)) ||| (1 <<< ((nI i + 1) &&& 31))) = 0) ↔ (b / 2 ^ (i + 1) % 2 = 0 ∧ (i = 0 ∨ b / 2 ^ (i - 1) % 2 = 0))) := by decide +kernel
theorem bes_iff {F : Nat → Nat} {n i : Nat} (hn : n ≤ 5) (hi : i < n) : (nI (bset F n) &&& (((1 <<< (nI i &&& 31)) >>> (1 &&& 31)) ||| (1 <<< ((nI i + 1) &&& 31))) = 0) ↔ besB n F i = 0 := by
  have hb := bset_lt F n
  have hb2 : (2 : Nat) ^ n ≤ 2 ^ 5 := Nat.pow_le_pow_right (by decide) hn
  rw [bes_all _ (by omega) i (by omega), bset_bit, bset_bit]
  unfold besB
  by_cases c1 : i + 1 < n ∧ F (10 + (i + 1)) = 1
  · rw [if_pos c1, if_pos (Or.inl c1)]
    exact ⟨fun q => absurd q.1 (by decide), fun q => absurd q (by decide)⟩
  · rw [if_neg c1]
    by_cases c2 : 0 < i ∧ F (10 + (i - 1)) = 1
    · rw [if_pos (Or.inr c2), if_pos ⟨by omega, c2.2⟩]
      refine ⟨fun q => ?_, fun q => absurd q (by decide)⟩
      rcases q.2 with zz | zz
      · omega
      · exact absurd zz (by decide)
    · have hno : ¬ ((i + 1 < n ∧ F (10 + (i + 1)) = 1) ∨ (0 < i ∧ F (10 + (i - 1)) = 1)) := fun zz => zz.elim c1 c2
      rw [if_neg hno]
      refine ⟨fun _ => rfl, fun _ => ⟨rfl, ?_⟩⟩
      by_cases hi0 : i = 0
      · exact Or.inl hi0
      · right
        rw [if_neg (fun z => c2 ⟨by omega, z.2⟩)]
section T49
variable {g : OG} {d : Nat} {I : IT} {X : XT} {K : Int32 → IT → XT → Prop} {KV : IT → XT → Prop}
variable {n w : Nat} {kd nd wd : Nat → Nat} {F : Nat → Nat} {m a : Nat}
theorem bset_m5 {F : Nat → Nat} {n k v : Nat} (hk : ∀ h, h < n → 10 + h ≠ k) : bset (mW F k v) n = bset F n := bset_cong (fun h hh => by rw [mW_at, if_neg (hk h hh)])
theorem c_X1_bringN (ha : a ∈ fireL) (hK : KV I X) : CV g (d + 1) iX1_bring [rf g a, .int 36] I X KV := en_X1_bring ha ⟨fun _ => hK, fun q => absurd rfl q⟩
theorem c_X1_bring {mv : Nat} (hmv : mv < 36) (hk : mv % 6 < n) (hn : n ≤ 5) (ha : a ∈ fireL) (hf : FR I a n F) (hK : ∀ I', SF a I I' → FR I' a n (carryN F (mv % 6)) → KV I' X) : CV g (d + 1) iX1_bring [rf g a, .int (nI mv)] I X KV := by
  obtain ⟨f1, f2, f3, f4, f5⟩ := id hf
  refine en_X1_bring ha ⟨fun q => ?_, fun _ I1 e1 I2 e2 => ?_⟩
  · have := (nI_eqL 36 (by omega) (by decide)).mp q
    omega
  · rw [i_rem6 (by omega), sh_one _ (by omega), show I1 a 3 = nI (bset F n) by rw [e1, set2_at, if_neg (by omega)]; exact f2, i_or, bset_or hk] at e2
    subst e1; subst e2
    refine hK _ (Same.step (Same.set (by omega)) (by omega)) ⟨fun h hh => ?_, ?_, ?_, ?_, ?_⟩
    · simp only [set2_at]
      rw [if_neg (by omega), if_neg (by omega), if_neg (by omega), if_neg (by omega)]
      unfold carryN
      rw [mW_at, if_neg (by omega), mW_at, if_neg (by omega), mW_at, if_neg (by omega), mW_at, if_neg (by omega)]
      exact f1 h hh
    · rw [set2_at, if_pos ⟨rfl, rfl⟩]
      exact congrArg nI (bset_m5 (fun h hh => by omega)).symm
    · simp only [set2_at]
      rw [if_neg (by omega), if_neg (by omega)]
      unfold carryN
      rw [mW_at, if_neg (by omega), mW_at, if_neg (by omega)]
      exact f3
    · simp only [set2_at]
      rw [if_neg (by omega), if_neg (by omega)]
      unfold carryN
      rw [mW_at, if_neg (by omega), mW_at, if_neg (by omega)]
      exact f4
    · rw [set2_at, if_neg (by omega), set2_at, if_pos ⟨rfl, rfl⟩]
      unfold carryN
      rw [mW_at, if_pos rfl]
      rfl
theorem c_X1_light {j : Nat} (hj : j < n) (hn : n ≤ 5) (ha : a ∈ fireL) (hf : FR I a n F) (hK : ∀ I', SF a I I' → FR I' a n (lightN F j) → KV I' X) : CV g (d + 1) iX1_light [rf g a, .int (nI j)] I X KV := by
  obtain ⟨f1, f2, f3, f4, f5⟩ := id hf
  refine en_X1_light ha (fun I1 e1 I2 e2 => ?_)
  rw [sh_one _ (by omega), show I1 a 3 = nI (bset F n) by rw [e1, set2_at, if_neg (by omega)]; exact f2, i_or, bset_or hj] at e2
  subst e1; subst e2
  refine hK _ (Same.step (Same.set (by omega)) (by omega)) ⟨fun h hh => ?_, ?_, ?_, ?_, ?_⟩
  · simp only [set2_at]
    rw [if_neg (by omega), if_neg (by omega), if_neg (by omega), if_neg (by omega)]
    unfold lightN
    rw [mW_at, if_neg (by omega), mW_at, if_neg (by omega), mW_at, if_neg (by omega), mW_at, if_neg (by omega)]
    exact f1 h hh
  · rw [set2_at, if_pos ⟨rfl, rfl⟩]
    congr 1
    unfold lightN
    apply bset_cong
    intro h hh
    simp only [mW_at]
    by_cases q : 10 + h = 10 + j
    · rw [if_pos q, if_pos q]
    · rw [if_neg q, if_neg q, if_neg (by omega)]
  · simp only [set2_at]
    rw [if_neg (by omega), if_neg (by omega)]
    unfold lightN
    rw [mW_at, if_neg (by omega), mW_at, if_neg (by omega)]
    exact f3
  · rw [set2_at, if_neg (by omega), set2_at, if_pos ⟨rfl, rfl⟩]
    unfold lightN
    rw [mW_at, if_neg (by omega), mW_at, if_pos rfl]
    rfl
  · simp only [set2_at]
    rw [if_neg (by omega), if_neg (by omega)]
    unfold lightN
    rw [mW_at, if_neg (by omega), mW_at, if_neg (by omega)]
    exact f5
theorem c_X1_feed {j : Nat} (hj : j < n) (ha : a ∈ fireL) (h66 : a ≠ 66) (he : iE I n w kd nd wd) (hf : FR I a n F) (hb : F (10 + j) = 1) (h9 : F j ≤ 9) (h15 : F 15 ≤ 1000)
    (hK : ∀ I', SF a I I' → FR I' a n (mW (mW F j (F j - takeN (kd j) (F 15))) (10 + j) (if 0 < F j - takeN (kd j) (F 15) then 1 else 0)) → KV I' X) : CV g (d + 2) iX1_feed [rf g a, .int (nI j)] I X KV := by
  have hn := he.1.2.2
  obtain ⟨f1, f2, f3, f4, f5⟩ := id hf
  have hk := he.2.2.1 j hj
  have htl := takeN_le (kd j) (F 15)
  have hin : vp_in (nI j) 5 := vp_in_nI (by omega) (by decide)
  have hbl := bset_lt F n
  have hb2 : (2 : Nat) ^ n ≤ 2 ^ 5 := Nat.pow_le_pow_right (by decide) hn
  refine en_X1_feed ha ⟨fun c => absurd c (nI_pos (by omega)), fun _ => ⟨fun _ => ⟨hin, hin, ?_⟩, fun c => absurd (show nI j < nI 5 from nI_lt (by omega) (by decide)) c⟩⟩
  rw [lane24 h66, nI_clamp (by omega), show I (24 + 1) j = I 25 j from rfl, hk.1, f3]
  refine c_X2_takes hk.2.2 h15 ⟨hin, fun I7 e7 => ?_⟩
  rw [(f1 j hj).1, sub_max (by omega) (by omega)] at e7
  generalize hx : F j - takeN (kd j) (F 15) = x at *
  have hx9 : x ≤ 9 := by omega
  have g1 : I7 (a + 1) j = nI x := by rw [e7, set2_at, if_pos ⟨rfl, rfl⟩]
  rw [g1]
  refine ⟨hin, fun c => ?_, fun c I9 e9 => ?_⟩
  · have hx0 : 0 < x := Nat.pos_of_ne_zero (fun z => c (by rw [z]; rfl))
    rw [if_pos hx0] at hK
    subst e7
    refine hK _ (Same.set (by omega)) ⟨fun h hh => ?_, ?_, ?_, ?_, ?_⟩
    · rw [set2_at, set2_at, mW_at, mW_at, mW_at, mW_at, if_neg (show ¬ h = 10 + j by omega), if_neg (show ¬ (a + 2 = a + 1 ∧ h = j) by omega), if_neg (show ¬ 5 + h = 10 + j by omega), if_neg (show ¬ 5 + h = j by omega)]
      refine ⟨?_, (f1 h hh).2⟩
      by_cases q : h = j
      · rw [if_pos ⟨rfl, q⟩, if_pos q]
      · rw [if_neg (fun zz => q zz.2), if_neg q]; exact (f1 h hh).1
    · rw [set2_at, if_neg (by omega), f2]
      congr 1
      apply bset_cong
      intro h hh
      simp only [mW_at]
      by_cases q : 10 + h = 10 + j
      · rw [if_pos q, q]; simp [hb]
      · rw [if_neg q, if_neg (by omega)]
    · rw [set2_at, if_neg (by omega), mW_at, if_neg (by omega), mW_at, if_neg (by omega)]; exact f3
    · rw [set2_at, if_neg (by omega), mW_at, if_neg (by omega), mW_at, if_neg (by omega)]; exact f4
    · rw [set2_at, if_neg (by omega), mW_at, if_neg (by omega), mW_at, if_neg (by omega)]; exact f5
  · have hx0 : x = 0 := (nI_eqL 0 (by omega) (by decide)).mp c
    rw [if_neg (by omega)] at hK
    have g3 : I7 a 3 = nI (bset F n) := by rw [e7, set2_at, if_neg (by omega)]; exact f2
    rw [g3, sh_one _ (by omega), clr_all _ (by omega) j (by omega), bset_bit, if_pos ⟨hj, hb⟩, Nat.one_mul] at e9
    have hcl := bset_clr hb hj
    rw [show bset F n - 2 ^ j = bset (mW F (10 + j) 0) n by omega] at e9
    subst e9; subst e7
    refine hK _ (Same.step (Same.set (by omega)) (by omega)) ⟨fun h hh => ?_, ?_, ?_, ?_, ?_⟩
    · rw [set2_at, set2_at, set2_at, set2_at, mW_at, mW_at, mW_at, mW_at, if_neg (show ¬ (a + 1 = a ∧ h = 3) by omega), if_neg (show ¬ h = 10 + j by omega), if_neg (show ¬ (a + 2 = a ∧ h = 3) by omega), if_neg (show ¬ (a + 2 = a + 1 ∧ h = j) by omega), if_neg (show ¬ 5 + h = 10 + j by omega), if_neg (show ¬ 5 + h = j by omega)]
      refine ⟨?_, (f1 h hh).2⟩
      by_cases q : h = j
      · rw [if_pos ⟨rfl, q⟩, if_pos q]
      · rw [if_neg (fun zz => q zz.2), if_neg q]; exact (f1 h hh).1
    · rw [set2_at, if_pos ⟨rfl, rfl⟩]
      congr 1
      apply bset_cong
      intro h hh
      simp only [mW_at]
      by_cases q : 10 + h = 10 + j
      · rw [if_pos q, if_pos q]
      · rw [if_neg q, if_neg q, if_neg (by omega)]
    · rw [set2_at, if_neg (by omega), set2_at, if_neg (by omega), mW_at, if_neg (by omega), mW_at, if_neg (by omega)]; exact f3
    · rw [set2_at, if_neg (by omega), set2_at, if_neg (by omega), mW_at, if_neg (by omega), mW_at, if_neg (by omega)]; exact f4
    · rw [set2_at, if_neg (by omega), set2_at, if_neg (by omega), mW_at, if_neg (by omega), mW_at, if_neg (by omega)]; exact f5
end T49
