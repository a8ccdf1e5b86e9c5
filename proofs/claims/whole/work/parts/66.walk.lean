/-! ===== plans: the class's walk ===== -/
theorem pm1_le : ∀ a, a < 16 → ∀ b, b < 16 → (nI a - 1 ≤ nI b - 1 ↔ a ≤ b) := by decide +kernel
theorem pm1_lt : ∀ a, a < 16 → (nI a - 1 < 0 ↔ a = 0) := by decide +kernel
section T66
variable {g : OG} {d : Nat} {I : IT} {X : XT} {K : Int32 → IT → XT → Prop} {KV : IT → XT → Prop}
variable {n w : Nat} {kd nd wd : Nat → Nat} {F : Nat → Nat} {m f a D : Nat} {dd : Nat → Nat} {S : Nat → Nat → Nat}
variable {goal wanted hours p : Nat} {R : PR} {mv : Nat → Nat}
def PC (I : IT) (goal wanted hours : Nat) (R : PR) : Prop := I 72 3 = nI goal ∧ I 72 4 = nI wanted ∧ I 72 5 = nI hours ∧ I 72 6 = nI R.1 - 1 ∧ R.1 ≤ 6 ∧ (¬ (goal = 1 ∨ goal = 3) → I 72 7 = nI R.2.2.1 ∧ I 72 8 = nI R.2.2.2.1 ∧ I 72 9 = nI R.2.2.2.2) ∧ (0 < R.1 → ∀ k, k < hours → I 75 k = nI (R.2.1 k))
def SP (p : Nat) (I I' : IT) : Prop := Same (fun b k => (b = 72 ∧ 6 ≤ k ∧ k ≤ 9) ∨ (b = 74 ∧ p ≤ k) ∨ b = 75 ∨ (76 + 3 * (p + 1) ≤ b ∧ b ≤ 90)) I I'
theorem reaN_le (hn : n ≤ 5) : reaN n goal wanted nd F ≤ 6 := by
  have hp := pop_le (bset F n) (Nat.lt_of_lt_of_le (bset_lt _ n) (Nat.pow_le_pow_right (n := 2) (by decide) hn))
  unfold reaN
  repeat (first | omega | split)
theorem reaN_1 (hg : goal = 1 ∨ goal = 3) : reaN n goal wanted nd F ≤ 1 := by
  unfold reaN
  rcases hg with rfl | rfl
  · rw [if_pos rfl]; split <;> omega
  · rw [if_neg (by decide), if_neg (by decide), if_pos rfl]; split <;> omega
theorem c_X5_rankOf (hg : goal ≤ 3) (hwn : wanted < 32) (ha : a ∈ fireL) (h66 : a ≠ 66) (he : iE I n w kd nd wd) (hf : FR I a n F) (h15 : F 15 ≤ 90) (h3 : I 72 3 = nI goal) (h4 : I 72 4 = nI wanted) (hK : K (nI (reaN n goal wanted nd F) - 1) I X) : CI g (d + 3) iX5_rankOf [rf g 72, rf g a] I X K := by
  have hn := he.1.2.2
  refine en_X5_rankOf ha ?_
  rw [h3, h4]
  rw [show nI goal = 1 ↔ goal = 1 from nI_eqL 1 (by omega) (by decide), show nI goal = 2 ↔ goal = 2 from nI_eqL 2 (by omega) (by decide), show nI goal = 3 ↔ goal = 3 from nI_eqL 3 (by omega) (by decide)]
  unfold reaN at hK
  refine ⟨fun q => ?_, fun q => ⟨fun q2 => ?_, fun q2 => ⟨fun q3 => ?_, fun q3 => ?_⟩⟩⟩
  · rw [if_pos q] at hK
    refine c_X1_burns hwn ha h66 he hf (fun z => t_one ?_) (fun z => t_zero ?_)
    · rw [if_pos z] at hK; exact hK
    · rw [if_neg z] at hK; exact hK
  · rw [if_neg q, if_pos q2] at hK
    refine c_X1_alight ha hn hf ?_
    rw [nI_pred] at hK
    exact hK
  · rw [if_neg q, if_neg q2, if_pos q3] at hK
    refine c_X1_servesHour ha h66 he hf h15 (fun z => t_one ?_) (fun z => t_zero ?_)
    · rw [if_pos z] at hK; exact hK
    · rw [z] at hK; exact hK
  · rw [if_neg q, if_neg q2, if_neg q3] at hK
    exact hK
theorem cpy4 (f h : Nat → Int32) : ∀ k, k < 4 → va_cpy f h (0 : Int32).toNatClampNeg (0 : Int32).toNatClampNeg (4 : Int32).toNatClampNeg k = f k := by
  intro k hk
  unfold va_cpy
  simp [hk]
theorem c_X5_weigh (hg : goal ≤ 3) (hwn : wanted < 32) (hh4 : hours ≤ 4) (hp : hours = p) (ha : a ∈ fireL) (hal : a = 76 + 3 * p) (he : iE I n w kd nd wd) (hf : FR I a n F) (h15 : F 15 ≤ 90) (hpc : PC I goal wanted hours R) (hmv : ∀ k, k < p → I 74 k = nI (mv k)) (hK : ∀ I', SP p I I' → PC I' goal wanted hours (weighS n goal wanted nd F mv R) → KV I' X) : CV g (d + 4) iX5_weigh [rf g 72, rf g a] I X KV := by
  have hn := he.1.2.2
  have h66 : a ≠ 66 := by omega
  obtain ⟨c1, c2, c3, c4, c5, c6, c7⟩ := hpc
  have hr := reaN_le (goal := goal) (wanted := wanted) (nd := nd) (F := F) hn
  refine en_X5_weigh ha (fun I1 e1 I2 e2 => ?_)
  have hs2 : ∀ b k, ¬ (b = 72 ∧ (k = 7 ∨ k = 9)) → I2 b k = I b k := fun b k hb => by
    rw [e2, set2_at, if_neg (by omega), e1, set2_at, if_neg (by omega)]
  have e27 : I2 72 7 = I 72 7 + 1 := by rw [e2, set2_at, if_neg (by omega), e1, set2_at, if_pos ⟨rfl, rfl⟩]
  have e29 : I2 72 9 = I 72 9 ||| nI (bset F n) := by
    rw [e2, set2_at, if_pos ⟨rfl, rfl⟩, e1, set2_at, if_neg (by omega), set2_at, if_neg (by omega), hf.2.1]
  have he2 : iE I2 n w kd nd wd := he.same (fun b k hb => hs2 b k (by omega))
  have hf2 : FR I2 a n F := hf.same (fun b k hb => hs2 b k (by omega))
  rw [show I2 72 4 = nI wanted by rw [hs2 72 4 (by omega)]; exact c2]
  -- the end, for either answer
  have fin : ∀ (x : Nat) (I6 : IT), (if wanted < n ∧ F (10 + wanted) = 1 then 1 else 0) = x → I6 = set2 I2 72 8 (I2 72 8 + nI x) → CI g (d + 3) iX5_rankOf [rf g 72, rf g a] I6 X (fun r7 I8 X9 => (r7 ≤ (I8 72 6) → KV I8 X9) ∧ (¬ r7 ≤ (I8 72 6) → ∀ I10 : IT, I10 = set2 I8 72 6 r7 → ((¬ (0 : Int32) < 0 ∧ ¬ (0 : Int32) < 0 ∧ ¬ (4 : Int32) < 0) ∧ (0 : Int32).toNatClampNeg + (4 : Int32).toNatClampNeg ≤ 4 ∧ (0 : Int32).toNatClampNeg + (4 : Int32).toNatClampNeg ≤ 4) ∧ ∀ I11 : IT, I11 = setRow I10 75 (va_cpy (I10 74) (I10 75) (0 : Int32).toNatClampNeg (0 : Int32).toNatClampNeg (4 : Int32).toNatClampNeg) → KV I11 X9)) := by
    intro x I6 hx e6
    have hs6 : ∀ b k, ¬ (b = 72 ∧ 7 ≤ k ∧ k ≤ 9) → I6 b k = I b k := fun b k hb => by rw [e6, set2_at, if_neg (by omega), hs2 b k (by omega)]
    have c6' : ¬ (goal = 1 ∨ goal = 3) → I6 72 7 = nI (R.2.2.1 + 1) ∧ I6 72 8 = nI (R.2.2.2.1 + x) ∧ I6 72 9 = nI (R.2.2.2.2 ||| bset F n) := by
      intro hgo
      obtain ⟨a1, a2, a3⟩ := c6 hgo
      refine ⟨?_, ?_, ?_⟩
      · rw [e6, set2_at, if_neg (by omega), e27, a1, nI_1]
      · rw [e6, set2_at, if_pos ⟨rfl, rfl⟩, hs2 72 8 (by omega), a2, nI_add]
      · rw [e6, set2_at, if_neg (by omega), e29, a3, i_or]
    refine c_X5_rankOf hg hwn ha h66 (he.same (fun b k hb => hs6 b k (by omega))) (hf.same (fun b k hb => hs6 b k (by omega))) h15 (by rw [hs6 72 3 (by omega)]; exact c1) (by rw [hs6 72 4 (by omega)]; exact c2) ?_
    rw [hs6 72 6 (by omega), c4, pm1_le _ (by omega) _ (by omega)]
    refine ⟨fun z => hK I6 (fun b k hb => hs6 b k (by omega)) ⟨by rw [hs6 72 3 (by omega)]; exact c1, by rw [hs6 72 4 (by omega)]; exact c2, by rw [hs6 72 5 (by omega)]; exact c3, ?_, ?_, ?_, ?_⟩, fun z I10 e10 => ⟨⟨by decide, by decide⟩, fun I11 e11 => ?_⟩⟩
    · show I6 72 6 = nI (if R.1 < reaN n goal wanted nd F then _ else R.1) - 1
      rw [if_neg (by omega), hs6 72 6 (by omega)]; exact c4
    · show (if R.1 < reaN n goal wanted nd F then _ else R.1) ≤ 6
      rw [if_neg (by omega)]; exact c5
    · intro hgo
      have := c6' hgo
      rw [← hx] at this
      exact this
    · show 0 < (if R.1 < reaN n goal wanted nd F then _ else R.1) → ∀ k, k < hours → I6 75 k = nI ((if R.1 < reaN n goal wanted nd F then mv else R.2.1) k)
      rw [if_neg (by omega), if_neg (by omega)]
      exact fun h0 k hk => by rw [hs6 75 k (by omega)]; exact c7 h0 k hk
    · have hs10 : ∀ b k, ¬ (b = 72 ∧ 6 ≤ k ∧ k ≤ 9) → I10 b k = I b k := fun b k hb => by rw [e10, set2_at, if_neg (by omega), hs6 b k (by omega)]
      have hs11 : ∀ b k, ¬ (b = 72 ∧ 6 ≤ k ∧ k ≤ 9) → b ≠ 75 → I11 b k = I b k := fun b k hb h75 => by rw [e11, setRow_at, if_neg h75, hs10 b k hb]
      refine hK I11 (fun b k hb => hs11 b k (by omega) (by omega)) ⟨by rw [hs11 72 3 (by omega) (by omega)]; exact c1, by rw [hs11 72 4 (by omega) (by omega)]; exact c2, by rw [hs11 72 5 (by omega) (by omega)]; exact c3, ?_, ?_, ?_, ?_⟩
      · show I11 72 6 = nI (if R.1 < reaN n goal wanted nd F then reaN n goal wanted nd F else R.1) - 1
        rw [if_pos (by omega), e11, setRow_at, if_neg (by omega), e10, set2_at, if_pos ⟨rfl, rfl⟩]
      · show (if R.1 < reaN n goal wanted nd F then reaN n goal wanted nd F else R.1) ≤ 6
        rw [if_pos (by omega)]; exact hr
      · intro hgo
        have := c6' hgo
        rw [← hx] at this
        obtain ⟨a1, a2, a3⟩ := this
        refine ⟨?_, ?_, ?_⟩
        · rw [e11, setRow_at, if_neg (by omega), e10, set2_at, if_neg (by omega)]; exact a1
        · rw [e11, setRow_at, if_neg (by omega), e10, set2_at, if_neg (by omega)]; exact a2
        · rw [e11, setRow_at, if_neg (by omega), e10, set2_at, if_neg (by omega)]; exact a3
      · show 0 < _ → ∀ k, k < hours → I11 75 k = nI ((if R.1 < reaN n goal wanted nd F then mv else R.2.1) k)
        rw [if_pos (by omega)]
        intro _ k hk
        rw [e11, setRow_at, if_pos rfl, cpy4 _ _ k (by omega), hs10 74 k (by omega)]
        exact hmv k (by omega)
  refine c_X1_burns hwn ha h66 he2 hf2 (fun z => t_one (fun I6 e6 => ?_)) (fun z => t_zero (fun I6 e6 => ?_))
  · exact fin 1 I6 (if_pos z) e6
  · exact fin 0 I6 (if_neg z) e6
end T66
