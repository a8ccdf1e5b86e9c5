/-! ===== bits, and the states as numbers ===== -/
theorem sh_amt : ∀ j, j < 32 → ((nI j &&& 31).toBitVec.smod 32).toNat = j := by decide +kernel
theorem sh_one : ∀ j, j < 31 → (1 : Int32) <<< (nI j &&& 31) = nI (2 ^ j) := by decide +kernel
theorem bit_at {b j : Nat} (hb : b < 2 ^ 31) (hj : j < 32) : (nI b >>> (nI j &&& 31)) &&& 1 = nI (b / 2 ^ j % 2) := by
  rw [pk_shrN hb _ j (sh_amt j hj)]
  have e : (1 : Int32).toBitVec.toNat = 2 ^ 1 - 1 := by decide
  have h2 : b / 2 ^ j < 2 ^ 32 := Nat.lt_of_le_of_lt (Nat.div_le_self _ _) (by omega)
  rw [pk_andN h2 1 e]
theorem mW_at (F : Nat → Nat) (k v j : Nat) : mW F k v j = if j = k then v else F j := rfl
theorem bset_lt (F : Nat → Nat) : ∀ n, bset F n < 2 ^ n
  | 0 => Nat.one_pos
  | n + 1 => by
    have h := bset_lt F n
    show bset F n + (if F (10 + n) = 1 then 2 ^ n else 0) < 2 ^ (n + 1)
    rw [Nat.pow_succ]
    split <;> omega
theorem bset_cong {F G : Nat → Nat} : ∀ {n : Nat}, (∀ h, h < n → (F (10 + h) = 1 ↔ G (10 + h) = 1)) → bset F n = bset G n
  | 0, _ => rfl
  | n + 1, e => by
    show bset F n + (if F (10 + n) = 1 then 2 ^ n else 0) = bset G n + (if G (10 + n) = 1 then 2 ^ n else 0)
    rw [bset_cong (fun h hh => e h (by omega))]
    have := e n (by omega)
    by_cases q : G (10 + n) = 1
    · rw [if_pos q, if_pos (this.mpr q)]
    · rw [if_neg q, if_neg (fun z => q (this.mp z))]
theorem bset_tb (F : Nat → Nat) : ∀ n j, (bset F n).testBit j = decide (j < n ∧ F (10 + j) = 1)
  | 0, j => by simp [bset]
  | n + 1, j => by
    have hl := bset_lt F n
    have ih := bset_tb F n j
    show (bset F n + (if F (10 + n) = 1 then 2 ^ n else 0)).testBit j = _
    by_cases hF : F (10 + n) = 1
    · rw [if_pos hF, Nat.add_comm]
      rcases Nat.lt_trichotomy j n with h | h | h
      · rw [Nat.testBit_two_pow_add_gt h, ih]
        simp [h, show j < n + 1 by omega]
      · subst h
        rw [Nat.testBit_two_pow_add_eq, Nat.testBit_lt_two_pow hl]
        simp [hF]
      · have : 2 ^ n + bset F n < 2 ^ j := Nat.lt_of_lt_of_le (show 2 ^ n + bset F n < 2 ^ (n + 1) by rw [Nat.pow_succ]; omega) (Nat.pow_le_pow_right (by decide) (by omega))
        rw [Nat.testBit_lt_two_pow this]
        simp [show ¬ j < n + 1 by omega]
    · rw [if_neg hF, Nat.add_zero, ih]
      by_cases hj : j = n
      · subst hj; simp [hF]
      · by_cases hjn : j < n
        · simp [hjn, show j < n + 1 by omega]
        · simp [hjn, show ¬ j < n + 1 by omega]
theorem tb_div (b j : Nat) : b / 2 ^ j % 2 = (b.testBit j).toNat := by
  rw [Nat.toNat_testBit]
theorem bset_bit {F : Nat → Nat} {n j : Nat} : bset F n / 2 ^ j % 2 = if j < n ∧ F (10 + j) = 1 then 1 else 0 := by
  rw [tb_div, bset_tb]
  by_cases h : j < n ∧ F (10 + j) = 1
  · rw [if_pos h]; simp [h]
  · rw [if_neg h, decide_eq_false h]; rfl
theorem bset_or {F : Nat → Nat} {n h : Nat} (hh : h < n) : bset F n ||| 2 ^ h = bset (mW F (10 + h) 1) n := by
  apply Nat.eq_of_testBit_eq
  intro j
  rw [Nat.testBit_or, bset_tb, bset_tb, Nat.testBit_two_pow, mW_at]
  by_cases hj : j = h
  · subst hj
    simp [hh]
  · have h1 : ¬ h = j := fun e => hj e.symm
    simp [h1, hj]
theorem i_or (a b : Nat) : nI a ||| nI b = nI (a ||| b) := by
  apply Int32.toBitVec_inj.mp
  show (Int32.ofNat a).toBitVec ||| (Int32.ofNat b).toBitVec = (Int32.ofNat (a ||| b)).toBitVec
  simp only [Int32.toBitVec_ofNat', BitVec.ofNat_or]
theorem clr_all : ∀ b, b < 32 → ∀ h, h < 5 → nI b &&& (nI (2 ^ h) ^^^ (-1)) = nI (b - b / 2 ^ h % 2 * 2 ^ h) := by decide +kernel
theorem bset_clr {F : Nat → Nat} {h : Nat} (hF : F (10 + h) = 1) : ∀ {n : Nat}, h < n → bset F n = bset (mW F (10 + h) 0) n + 2 ^ h
  | 0, hh => absurd hh (Nat.not_lt_zero h)
  | n + 1, hh => by
    show bset F n + (if F (10 + n) = 1 then 2 ^ n else 0) = bset (mW F (10 + h) 0) n + (if mW F (10 + h) 0 (10 + n) = 1 then 2 ^ n else 0) + 2 ^ h
    by_cases hn : h = n
    · subst hn
      have e : bset F h = bset (mW F (10 + h) 0) h := bset_cong (fun j hj => by rw [mW_at, if_neg (by omega)])
      rw [if_pos hF, e, mW_at, if_pos rfl]
      simp
    · have ih := bset_clr hF (n := n) (by omega)
      have e2 : mW F (10 + h) 0 (10 + n) = F (10 + n) := by rw [mW_at, if_neg (by omega)]
      rw [ih, e2]
      omega
