/-! ===== plans: what is reckoned ===== -/
/-- every house that needs fire in this hour has it (the first i houses) -/
def servB (nd F : Nat → Nat) : Nat → Bool
  | 0 => true
  | i + 1 => servB nd F i && decide (¬ nd i = F 15 ∨ F (10 + i) = 1)
def mvd (F : Nat → Nat) (mv : Nat) : Nat → Nat := if mv = 36 then F else carryN F (mv % 6)
/-- rank (0: none yet, else one more than the rank), the moves of the best, all, fitting, ever -/
def PR : Type := Nat × (Nat → Nat) × Nat × Nat × Nat
def reaN (n goal wanted : Nat) (nd F : Nat → Nat) : Nat := if goal = 1 then (if wanted < n ∧ F (10 + wanted) = 1 then 1 else 0) else if goal = 2 then pop (bset F n) + 1 else if goal = 3 then (if servB nd F n then 1 else 0) else 0
def weighS (n goal wanted : Nat) (nd F mv : Nat → Nat) (R : PR) : PR := (if R.1 < reaN n goal wanted nd F then reaN n goal wanted nd F else R.1, if R.1 < reaN n goal wanted nd F then mv else R.2.1, R.2.2.1 + 1, R.2.2.2.1 + (if wanted < n ∧ F (10 + wanted) = 1 then 1 else 0), R.2.2.2.2 ||| bset F n)
def loopS (f : Nat → PR → PR) : Nat → Nat → PR → PR
  | 0, _, R => R
  | q + 1, i, R => loopS f q (i + 1) (f i R)
def walkS (n w goal wanted : Nat) (kd nd wd : Nat → Nat) : Nat → Nat → (Nat → Nat) → (Nat → Nat) → PR → PR
  | 0, _, F, mv, R => weighS n goal wanted nd F mv R
  | r + 1, p, F, mv, R => loopS (fun i R => if (i = 36 ∨ mvB n w kd wd F i = true) ∧ (goal = 3 → servB nd (mvd F i) n = true) then walkS n w goal wanted kd nd wd r (p + 1) (passN n kd (mvd F i)) (mW mv p i) R else R) 37 0 R
section T65
variable {g : OG} {d : Nat} {I : IT} {X : XT} {K : Int32 → IT → XT → Prop} {KV : IT → XT → Prop}
variable {n w : Nat} {kd nd wd : Nat → Nat} {F : Nat → Nat} {m f a D : Nat} {dd : Nat → Nat} {S : Nat → Nat → Nat}
theorem servB_n {i : Nat} (hi : i < n) (h : nd i = F 15 ∧ ¬ F (10 + i) = 1) : servB nd F n = false := by
  induction n with
  | zero => omega
  | succ k ih =>
    show (servB nd F k && decide (¬ nd k = F 15 ∨ F (10 + k) = 1)) = false
    by_cases e : i = k
    · subst e
      rw [decide_eq_false (fun z => z.elim (fun y => y h.1) h.2)]
      exact Bool.and_false _
    · rw [ih (by omega)]
      rfl
theorem servB_y {i : Nat} (h : servB nd F i = true) (h2 : ¬ (nd i = F 15 ∧ ¬ F (10 + i) = 1)) : servB nd F (i + 1) = true := by
  show (servB nd F i && decide (¬ nd i = F 15 ∨ F (10 + i) = 1)) = true
  rw [h, decide_eq_true (show ¬ nd i = F 15 ∨ F (10 + i) = 1 by
    by_cases a : nd i = F 15
    · exact Or.inr (Classical.byContradiction (fun b => h2 ⟨a, b⟩))
    · exact Or.inl a)]
  rfl
theorem ndI_eq {v h : Nat} (hv : v ≤ 9 ∨ v = 99) (hh : h ≤ 90) : ndI v = nI h ↔ v = h := by
  unfold ndI
  by_cases e : v = 99
  · rw [if_pos e]
    refine ⟨fun c => ?_, fun c => by omega⟩
    rw [i_eq, nI_toInt (by omega), show (-9 : Int32).toInt = -9 by decide] at c
    omega
  · rw [if_neg e, nI_eq (by omega) (by omega)]
theorem lp_X1_servesHour (ha : a ∈ fireL) (h66 : a ≠ 66) (he : iE I n w kd nd wd) (hf : FR I a n F) (h15 : F 15 ≤ 90) (hT : servB nd F n = true → K 1 I X) (hF : servB nd F n = false → K 0 I X) : ∀ (q i : Nat), i + q = n → servB nd F i = true → SR g (d + 1) iX1_servesHour 2 [(0, rf g a), (1, .int (nI i))] I X (qI K) := by
  have hn := he.1.2.2
  have hb := bset_lt F n
  have h32 : (2 : Nat) ^ n ≤ 2 ^ 5 := Nat.pow_le_pow_right (by decide) hn
  intro q
  induction q with
  | zero =>
    intro i hi hs
    obtain rfl : i = n := by omega
    refine rg_X1_servesHour_2 ha ?_
    rw [lane24 h66, he.1.1]
    exact ⟨fun _ => hT hs, fun c => absurd (Int32.le_refl _) c⟩
  | succ q ih =>
    intro i hi hs
    refine rg_X1_servesHour_2 ha ?_
    have h4 := he.2.2.2.1 i (by omega)
    rw [lane24 h66, he.1.1, nI_clamp (by omega), show I (24 + 2) i = ndI (nd i) from h4.1, hf.2.2.1, ndI_eq h4.2.2 h15, hf.2.1, bit_at (by omega) (by omega), bset_bit]
    refine ⟨fun c => absurd c (nI_ge (by omega) (by omega)), fun _ => ⟨vp_in_nI (by omega) (by decide), fun c x2 e2 => ?_, fun c => ?_⟩⟩
    · subst e2
      rw [nI_1]
      exact ih (i + 1) (by omega) (servB_y hs (fun z => c z.1))
    · by_cases z : F (10 + i) = 1
      · rw [if_pos ⟨by omega, z⟩]
        refine ⟨fun _ x3 e3 => ?_, fun y => absurd y (by decide)⟩
        subst e3
        rw [nI_1]
        exact ih (i + 1) (by omega) (servB_y hs (fun y => y.2 z))
      · rw [if_neg (fun y => z y.2)]
        exact ⟨fun y => absurd rfl y, fun _ => hF (servB_n (by omega) ⟨c, z⟩)⟩
theorem c_X1_servesHour (ha : a ∈ fireL) (h66 : a ≠ 66) (he : iE I n w kd nd wd) (hf : FR I a n F) (h15 : F 15 ≤ 90) (hT : servB nd F n = true → K 1 I X) (hF : servB nd F n = false → K 0 I X) : CI g (d + 1) iX1_servesHour [rf g a] I X K :=
  en_X1_servesHour ha (lp_X1_servesHour ha h66 he hf h15 hT hF n 0 (by omega) rfl)
theorem lp_X11_isServed (hf : f < 12) (he : iE I n w kd nd wd) (hF0 : FM I f F) (hw : WF n F m) (hm : m ≤ 90) (hT : servB nd F n = true → K 1 I X) (hF : servB nd F n = false → K 0 I X) : ∀ (q i : Nat) (b : Int32), i + q = n → (b = 1 ∧ servB nd F i = true ∨ b = 0 ∧ servB nd F n = false) → SR g (d + 2) iX11_isServed 4 [(0, rf g 129), (1, .int (nI f)), (2, .int b), (3, .int (nI i))] I X (qI K) := by
  have hn := he.1.2.2
  have h15 := hw.2.1
  intro q
  induction q with
  | zero =>
    intro i b hi hs
    obtain rfl : i = n := by omega
    refine rg_X11_isServed_4 ?_
    rw [he.1.2.1]
    refine ⟨fun _ => ?_, fun c => absurd (Int32.le_refl _) c⟩
    rcases hs with ⟨rfl, hs⟩ | ⟨rfl, hs⟩
    · exact ⟨Or.inr rfl, hT hs⟩
    · exact ⟨Or.inl rfl, hF hs⟩
  | succ q ih =>
    intro i b hi hs
    refine rg_X11_isServed_4 ?_
    have h4 := he.2.2.2.1 i (by omega)
    obtain ⟨u1, u2, u3, u4⟩ := hw.1 i (by omega)
    rw [he.1.2.1, nI_clamp (by omega), h4.2.1]
    refine ⟨fun c => absurd c (nI_ge (by omega) (by omega)), fun _ => ?_⟩
    rcases hs with ⟨rfl, hs⟩ | ⟨rfl, hs⟩
    · refine t_one ⟨vp_in_nI (by omega) (by decide), c_X11_hourOf hf hF0 ?_⟩
      rw [ndI_eq h4.2.2 (by omega)]
      refine ⟨fun c x2 e2 => ?_, fun c => c_X11_isBurning hf (by omega) hF0 (by omega) (fun z => t_one (fun x3 e3 => ?_)) (fun z => t_zero (fun x3 e3 => ?_))⟩
      · subst e2
        rw [nI_1]
        exact ih (i + 1) 1 (by omega) (Or.inl ⟨rfl, servB_y hs (fun z => c z.1)⟩)
      · subst e3
        rw [nI_1]
        exact ih (i + 1) 1 (by omega) (Or.inl ⟨rfl, servB_y hs (fun y => y.2 z)⟩)
      · subst e3
        rw [nI_1]
        exact ih (i + 1) 0 (by omega) (Or.inr ⟨rfl, servB_n (by omega) ⟨c, z⟩⟩)
    · refine t_zero (fun x3 e3 => ?_)
      subst e3
      rw [nI_1]
      exact ih (i + 1) 0 (by omega) (Or.inr ⟨rfl, hs⟩)
theorem c_X11_isServed (hf : f < 12) (he : iE I n w kd nd wd) (hF0 : FM I f F) (hw : WF n F m) (hm : m ≤ 90) (hT : servB nd F n = true → K 1 I X) (hF : servB nd F n = false → K 0 I X) : CI g (d + 2) iX11_isServed [rf g 129, .int (nI f)] I X K :=
  en_X11_isServed (lp_X11_isServed hf he hF0 hw hm hT hF n 0 1 (by omega) (Or.inl ⟨rfl, rfl⟩))
end T65
