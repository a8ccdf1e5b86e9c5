/-! ===== smoke: the loops over the houses ===== -/
def smH (n w : Nat) (kd wd bk : Nat → Nat) (z : Nat) (F : Nat → Nat) (h : Nat) : Nat := if catchB kd F h = 1 then smkN n w kd wd bk z 0 (mW F (10 + h) 1) else 0
def smC (n w : Nat) (kd wd bk : Nat → Nat) (z : Nat) (F : Nat → Nat) : Nat → Nat
  | 0 => 0
  | i + 1 => smC n w kd wd bk z F i + smH n w kd wd bk z F i
def smO (n w : Nat) (kd wd bk : Nat → Nat) (z : Nat) (F : Nat → Nat) : Nat → Nat
  | 0 => 0
  | i + 1 => smO n w kd wd bk z F i ||| (if smH n w kd wd bk z F i = 0 then 0 else 2 ^ i)
section T77
variable {g : OG} {d : Nat} {I : IT} {X : XT} {K : Int32 → IT → XT → Prop} {KV : IT → XT → Prop}
variable {n w : Nat} {kd nd wd bk : Nat → Nat} {F : Nat → Nat} {m f a D j z p : Nat}
theorem smk_le : ∀ (r p : Nat) (F : Nat → Nat), smkN n w kd wd bk r p F ≤ 37 ^ r
  | 0, _, _ => Nat.le_refl _
  | r + 1, p, F => by
    rw [smkN_s]
    have key : ∀ q i, sumS (stM n w kd wd bk r p F) q i ≤ q * 37 ^ r := by
      intro q
      induction q with
      | zero => exact fun _ => Nat.zero_le _
      | succ q ih =>
        intro i
        have h1 := ih (i + 1)
        have h2 : stM n w kd wd bk r p F i ≤ 37 ^ r := by
          unfold stM
          split
          · exact smk_le r (p + 1) _
          · exact Nat.zero_le _
        show stM n w kd wd bk r p F i + sumS (stM n w kd wd bk r p F) q (i + 1) ≤ _
        rw [Nat.succ_mul]
        omega
    have := key 37 0
    rw [Nat.pow_succ, Nat.mul_comm (37 ^ r) 37]
    exact this
theorem smH_le (hz : z ≤ 5) (h : Nat) : smH n w kd wd bk z F h ≤ 69343957 := by
  have a1 := smk_le (n := n) (w := w) (kd := kd) (wd := wd) (bk := bk) z 0 (mW F (10 + h) 1)
  have a2 : 37 ^ z ≤ 37 ^ 5 := Nat.pow_le_pow_right (by decide) hz
  have a3 : (37 : Nat) ^ 5 = 69343957 := by decide
  unfold smH
  split <;> omega
theorem smC_le (hz : z ≤ 5) : ∀ i, smC n w kd wd bk z F i ≤ i * 69343957
  | 0 => Nat.le_refl _
  | i + 1 => by
    have h1 := smC_le hz i
    have h2 := smH_le (n := n) (w := w) (kd := kd) (wd := wd) (bk := bk) (F := F) hz i
    show smC n w kd wd bk z F i + smH n w kd wd bk z F i ≤ (i + 1) * 69343957
    omega
theorem light_E16 {h : Nat} : E16 (lightN F h) (mW F (10 + h) 1) := by
  intro k hk
  unfold lightN
  rw [mW_at, mW_at, mW_at]
  by_cases e : k = 10 + h
  · rw [if_pos e, if_pos e]
  · rw [if_neg e, if_neg e, if_neg hk]
theorem smH_1 {h : Nat} (hn : n ≤ 5) (c : catchN kd F h) : smkN n w kd wd bk z 0 (lightN F h) = smH n w kd wd bk z F h := by
  unfold smH
  rw [if_pos (catchB_1 c)]
  exact smk_E16 hn z 0 _ _ light_E16
theorem smH_0 {h : Nat} (c : ¬ catchN kd F h) : smH n w kd wd bk z F h = 0 := by
  unfold smH
  rw [catchB_0 c]
  rfl
def SX (I I' : IT) : Prop := Same (fun b k => (b = 91 ∧ (k = 3 ∨ k = 4)) ∨ (93 ≤ b ∧ b ≤ 110)) I I'
theorem lp_X8_search (hj : j < 6) (hX : X.2.1 = rowA j) (hz5 : z ≤ 5) (I0 : IT) (hrz : I0 (rowA j) 1 = nI z) (hbk : ∀ k, k < z → I0 (rowA j + 1) k = nI (bk k) ∧ bk k < 32) (he0 : iE I0 n w kd nd wd) (hf0 : FR I0 30 n F) (hw : WF n F m) (hm : m ≤ 80) (h16 : F 16 = 0)
    (hK : ∀ I', SX I0 I' → I' 91 3 = nI (smC n w kd wd bk z F n) → I' 91 4 = nI (smO n w kd wd bk z F n) → KV I' X) : ∀ (q i : Nat) (I : IT), i + q = n → SX I0 I → I 91 3 = nI (smC n w kd wd bk z F i) → I 91 4 = nI (smO n w kd wd bk z F i) → SR g (d + 16) iX8_search 17 [(0, rf g 91), (1, rf g 30), (3, .int (nI i))] I X (qV KV) := by
  have hn := he0.1.2.2
  have hra : rowA j + 1 < 16 := by unfold rowA; omega
  intro q
  induction q with
  | zero =>
    intro i I hi hs h3 h4
    obtain rfl : i = n := by omega
    have he : iE I i w kd nd wd := he0.same (fun b k hb => hs b k (by omega))
    refine rg_X8_search_17 (p1 := 30) (by decide) ?_
    rw [he.1.1]
    exact ⟨fun _ => hK I hs h3 h4, fun c => absurd (Int32.le_refl _) c⟩
  | succ q ih =>
    intro i I hi hs h3 h4
    have he : iE I n w kd nd wd := he0.same (fun b k hb => hs b k (by omega))
    have hf : FR I 30 n F := hf0.same (fun b k hb => hs b k (by omega))
    have b1 := smC_le (n := n) (w := w) (kd := kd) (wd := wd) (bk := bk) (F := F) hz5 i
    have b2 := smH_le (n := n) (w := w) (kd := kd) (wd := wd) (bk := bk) (F := F) hz5 i
    refine rg_X8_search_17 (p1 := 30) (by decide) ?_
    rw [he.1.1]
    refine ⟨fun c => absurd c (nI_ge (by omega) (by omega)), fun _ => c_X1_canStrike (a := 30) (by omega) (by decide) (by decide) he hf hw (fun c => t_one (fun x5 e5 => ⟨vp_in_nI (n := 0) (N := 6) (by decide) (by decide), ?_⟩)) (fun c => t_zero (fun x4 e4 => ?_))⟩
    · rw [h3] at e5
      subst e5
      refine c_X1_become (a := slvA 0) (p := 30) (by decide) (by decide) (by decide) hn hf hw.2.2.1 hw.2.2.2.1 (fun I7 h7 hf7 => ⟨vp_in_nI (n := 0) (N := 6) (by decide) (by decide), ?_⟩)
      refine c_X1_light (a := slvA 0) (by omega) hn (by decide) hf7 (fun I10 h10 hf10 => ?_)
      have hs10 : ∀ b k, ¬ (93 ≤ b ∧ b ≤ 95) → I10 b k = I b k := fun b k hb => by rw [h10 b k (by unfold slvA; omega), h7 b k (by unfold slvA; omega)]
      rw [show d + 15 = (d + (10 - 2 * z)) + 2 * z + 5 by omega]
      refine c_X8_walk (bk := bk) hj hX hz5 z 0 m (lightN F i) I10 _ (by omega) (by omega) (by rw [hs10 _ 1 (by omega), hs _ 1 (by omega)]; exact hrz) (fun k hk => by rw [hs10 _ k (by omega), hs _ k (by omega)]; exact hbk k hk) (he.same (fun b k hb => hs10 b k (by omega))) hf10 (hw.light hn (by omega) c.2.2.1) (fun I12 h12 e12 => ?_)
      have e12' : I12 91 3 = nI (smC n w kd wd bk z F i + smH n w kd wd bk z F i) := by rw [e12, hs10 91 3 (by omega), h3, smH_1 hn c.2.2, nI_add]
      have e124 : I12 91 4 = nI (smO n w kd wd bk z F i) := by rw [h12 91 4 (by omega), hs10 91 4 (by omega), h4]
      have hs12 : SX I0 I12 := fun b k hb => by rw [h12 b k (by omega), hs10 b k (by omega), hs b k hb]
      rw [e12', nI_leI (by omega) (by omega), e124, show d + (10 - 2 * z) + 2 * z + 5 + 1 = d + 16 by omega]
      refine ⟨fun y I14 e14 x15 e15 => ?_, fun y I14 e14 x15 e15 => ?_⟩
      · subst e15
        rw [nI_1]
        refine ih (i + 1) I14 (by omega) (by rw [e14]; exact hs12.step (Or.inl ⟨rfl, Or.inr rfl⟩)) ?_ ?_
        · rw [e14, set2_at, if_neg (by omega)]; exact e12'
        · rw [e14, set2_at, if_pos ⟨rfl, rfl⟩]
          show nI _ ||| nI 0 = nI (_ ||| (if smH n w kd wd bk z F i = 0 then 0 else 2 ^ i))
          rw [if_pos (by omega), i_or]
      · subst e15
        rw [nI_1]
        refine ih (i + 1) I14 (by omega) (by rw [e14]; exact hs12.step (Or.inl ⟨rfl, Or.inr rfl⟩)) ?_ ?_
        · rw [e14, set2_at, if_neg (by omega)]; exact e12'
        · rw [e14, set2_at, if_pos ⟨rfl, rfl⟩, sh_one _ (by omega), i_or]
          show nI _ = nI (_ ||| (if smH n w kd wd bk z F i = 0 then 0 else 2 ^ i))
          rw [if_neg (by omega)]
    · subst e4
      rw [nI_1]
      have c0 : smH n w kd wd bk z F i = 0 := smH_0 (fun y => c ⟨h16, by omega, y⟩)
      refine ih (i + 1) I (by omega) hs ?_ ?_
      · rw [h3]
        show _ = nI (_ + smH n w kd wd bk z F i)
        rw [c0, Nat.add_zero]
      · rw [h4]
        show _ = nI (_ ||| (if smH n w kd wd bk z F i = 0 then 0 else 2 ^ i))
        rw [if_pos c0, Nat.or_zero]
end T77
