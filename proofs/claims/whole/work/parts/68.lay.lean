/-! ===== plans: the model's ===== -/
section T68
variable {g : OG} {d : Nat} {I : IT} {X : XT} {K : Int32 → IT → XT → Prop} {KV : IT → XT → Prop}
variable {n w : Nat} {kd nd wd : Nat → Nat} {F : Nat → Nat} {m f a D : Nat} {dd : Nat → Nat} {S : Nat → Nat → Nat}
variable {goal wanted hours p aim : Nat} {R : PR} {mv : Nat → Nat}
def PMd (I : IT) (aim wanted hours : Nat) (R : PR) : Prop := I 129 36 = nI wanted ∧ I 129 34 = nI R.2.2.1 ∧ I 129 35 = nI R.2.2.2.1 ∧ I 129 33 = nI R.2.2.2.2 ∧ R.1 ≤ 6 ∧ (aim = 1 ∨ aim = 4 → I 129 31 = if R.1 = 0 then 0 else 1) ∧ (aim = 3 → I 129 32 = nI R.1 - 1) ∧ (0 < R.1 → ∀ k, k < hours → I 150 k = nI (R.2.1 k))
def AG (aim goal : Nat) : Prop := (aim = 0 ∧ goal = 0) ∨ (aim = 1 ∧ goal = 1) ∨ (aim = 2 ∧ goal = 0) ∨ (aim = 3 ∧ goal = 2) ∨ (aim = 4 ∧ goal = 3)
def SQ (p : Nat) (I I' : IT) : Prop := Same (fun b k => (b = 129 ∧ 31 ≤ k ∧ k ≤ 35) ∨ (b = 149 ∧ p ≤ k) ∨ b = 150 ∨ (b = 142 ∧ 18 * (p + 2) ≤ k)) I I'
theorem lp_X11_takes (hh : hours ≤ 4) (I0 : IT) (hK : ∀ I', Same (fun b k => b = 150 ∧ k < hours) I0 I' → (∀ k, k < hours → I' 150 k = I0 149 k) → KV I' X) : ∀ (q i : Nat) (I : IT), i + q = hours → Same (fun b k => b = 150 ∧ k < hours) I0 I → (∀ k, k < i → I 150 k = I0 149 k) → SR g (d + 1) iX11_takes 7 [(0, rf g 129), (1, .int (nI hours)), (2, .int (nI i))] I X (qV KV) := by
  intro q
  induction q with
  | zero =>
    intro i I hi hs hk
    obtain rfl : i = hours := by omega
    exact rg_X11_takes_7 ⟨fun _ => hK I hs hk, fun c => absurd (Int32.le_refl _) c⟩
  | succ q ih =>
    intro i I hi hs hk
    refine rg_X11_takes_7 ⟨fun c => absurd c (nI_ge (by omega) (by omega)), fun _ => ?_⟩
    rw [nI_clamp (by omega)]
    refine ⟨vp_in_nI (by omega) (by decide), vp_in_nI (by omega) (by decide), fun I3 e3 x4 e4 => ?_⟩
    subst e4
    rw [nI_1]
    refine ih (i + 1) I3 (by omega) (by rw [e3]; exact hs.step ⟨rfl, by omega⟩) (fun k hk2 => ?_)
    rw [e3, set2_at]
    by_cases e : k = i
    · rw [if_pos ⟨rfl, e⟩, hs 149 i (by omega), e]
    · rw [if_neg (by omega)]; exact hk k (by omega)
theorem c_X11_takes (hh : hours ≤ 4) (hK : ∀ I', Same (fun b k => (b = 129 ∧ k = 31) ∨ (b = 150 ∧ k < hours)) I I' → I' 129 31 = 1 → (∀ k, k < hours → I' 150 k = I 149 k) → KV I' X) : CV g (d + 1) iX11_takes [rf g 129, .int (nI hours)] I X KV := by
  refine en_X11_takes (fun I1 e1 => lp_X11_takes hh I1 (fun I' h' hk => hK I' ?_ ?_ ?_) hours 0 I1 (by omega) Same.rf (fun k hk => absurd hk (Nat.not_lt_zero k)))
  · intro b k hb
    rw [h' b k (by omega), e1, set2_at, if_neg (by omega)]
  · rw [h' 129 31 (by omega), e1, set2_at, if_pos ⟨rfl, rfl⟩]
  · intro k hk2
    rw [hk k hk2, e1, set2_at, if_neg (by omega)]
theorem c_X11_ends (hag : AG aim goal) (hwn : wanted < 32) (hh4 : hours ≤ 4) (hf : f < 12) (hfp : f = hours + 1) (he : iE I n w kd nd wd) (hF0 : FM I f F) (hw : WF n F m) (hm : m ≤ 90) (hpm : PMd I aim wanted hours R) (hmv : ∀ k, k < hours → I 149 k = nI (mv k)) (hK : ∀ I', SQ hours I I' → PMd I' aim wanted hours (weighS n goal wanted nd F mv R) → KV I' X) : CV g (d + 3) iX11_ends [rf g 129, .int (nI aim), .int (nI hours), .int (nI f)] I X KV := by
  have hn := he.1.2.2
  have hb := bset_lt F n
  have h32 : (2 : Nat) ^ n ≤ 2 ^ 5 := Nat.pow_le_pow_right (by decide) hn
  have hr := reaN_le (goal := goal) (wanted := wanted) (nd := nd) (F := F) hn
  have ha4 : aim ≤ 4 := by unfold AG at hag; omega
  obtain ⟨c1, c2, c3, c4, c5, c6, c7, c8⟩ := hpm
  refine en_X11_ends (c_X11_burning hf he hF0 hw (fun I4 e4 I5 e5 => ?_))
  have hs5 : ∀ b k, ¬ (b = 129 ∧ (k = 33 ∨ k = 34)) → I5 b k = I b k := fun b k hb => by rw [e5, set2_at, if_neg (by omega), e4, set2_at, if_neg (by omega)]
  have e534 : I5 129 34 = nI (R.2.2.1 + 1) := by rw [e5, set2_at, if_neg (by omega), e4, set2_at, if_pos ⟨rfl, rfl⟩, c2, nI_1]
  have e533 : I5 129 33 = nI (R.2.2.2.2 ||| bset F n) := by rw [e5, set2_at, if_pos ⟨rfl, rfl⟩, e4, set2_at, if_neg (by omega), c4, i_or]
  rw [hs5 129 36 (by omega), c1]
  have q1 : nI aim = 1 ↔ aim = 1 := nI_eqL 1 (by omega) (by decide)
  have q2 : nI aim = 2 ↔ aim = 2 := nI_eqL 2 (by omega) (by decide)
  have q3 : nI aim = 3 ↔ aim = 3 := nI_eqL 3 (by omega) (by decide)
  have q4 : nI aim = 4 ↔ aim = 4 := nI_eqL 4 (by omega) (by decide)
  have hbit : bset F n / 2 ^ wanted % 2 = 1 ↔ wanted < n ∧ F (10 + wanted) = 1 := by
    rw [bset_bit]
    by_cases z : wanted < n ∧ F (10 + wanted) = 1
    · rw [if_pos z]; exact ⟨fun _ => z, fun _ => rfl⟩
    · rw [if_neg z]; exact ⟨fun y => absurd y (by decide), fun y => absurd y z⟩
  have fin : ∀ (x : Nat) (I9 : IT), (if wanted < n ∧ F (10 + wanted) = 1 then 1 else 0) = x → I9 = set2 I5 129 35 (I5 129 35 + nI x) →
      (nI aim = 1 → (¬ (I9 129 31) = 0 → KV I9 X) ∧ ((I9 129 31) = 0 → CI g (d + 2) iX11_has [.int (nI (bset F n)), .int (I9 129 36)] I9 X (fun r11 I12 X13 => (r11 = 0 → KV I12 X13) ∧ (¬ r11 = 0 → CV g (d + 2) iX11_takes [rf g 129, .int (nI hours)] I12 X13 (fun I14 X15 => KV I14 X15))))) ∧
      (¬ nI aim = 1 → (nI aim = 2 → KV I9 X) ∧ (¬ nI aim = 2 → (nI aim = 3 → CI g (d + 2) iX11_bits [.int (nI (bset F n))] I9 X (fun r18 I19 X20 => (r18 ≤ (I19 129 32) → KV I19 X20) ∧ (¬ r18 ≤ (I19 129 32) → CI g (d + 2) iX11_bits [.int (nI (bset F n))] I19 X20 (fun r21 I22 X23 => ∀ I24 : IT, I24 = set2 I22 129 32 r21 → CV g (d + 2) iX11_takes [rf g 129, .int (nI hours)] I24 X23 (fun I25 X26 => KV I25 X26))))) ∧
      (¬ nI aim = 3 → (nI aim = 4 → (¬ (I9 129 31) = 0 → KV I9 X) ∧ ((I9 129 31) = 0 → CI g (d + 2) iX11_isServed [rf g 129, .int (nI f)] I9 X (fun r28 I29 X30 => (r28 = 0 → KV I29 X30) ∧ (¬ r28 = 0 → CV g (d + 2) iX11_takes [rf g 129, .int (nI hours)] I29 X30 (fun I31 X32 => KV I31 X32))))) ∧ (¬ nI aim = 4 → KV I9 X)))) := by
    intro x I9 hx e9
    have hs9 : ∀ b k, ¬ (b = 129 ∧ 33 ≤ k ∧ k ≤ 35) → I9 b k = I b k := fun b k hb => by rw [e9, set2_at, if_neg (by omega), hs5 b k (by omega)]
    have b34 : I9 129 34 = nI (R.2.2.1 + 1) := by rw [e9, set2_at, if_neg (by omega)]; exact e534
    have b33 : I9 129 33 = nI (R.2.2.2.2 ||| bset F n) := by rw [e9, set2_at, if_neg (by omega)]; exact e533
    have b35 : I9 129 35 = nI (R.2.2.2.1 + (if wanted < n ∧ F (10 + wanted) = 1 then 1 else 0)) := by rw [hx, e9, set2_at, if_pos ⟨rfl, rfl⟩, hs5 129 35 (by omega), c3, nI_add]
    have b36 : I9 129 36 = nI wanted := by rw [hs9 129 36 (by omega)]; exact c1
    have keep : reaN n goal wanted nd F ≤ R.1 → KV I9 X := by
      intro hle
      refine hK I9 (fun b k hb => hs9 b k (by omega)) ⟨b36, b34, b35, b33, ?_, fun z => ?_, fun z => ?_, ?_⟩
      · show (if R.1 < reaN n goal wanted nd F then _ else R.1) ≤ 6
        rw [if_neg (by omega)]; exact c5
      · show I9 129 31 = if (if R.1 < reaN n goal wanted nd F then reaN n goal wanted nd F else R.1) = 0 then 0 else 1
        rw [if_neg (show ¬ R.1 < reaN n goal wanted nd F by omega), hs9 129 31 (by omega)]; exact c6 z
      · show I9 129 32 = nI (if R.1 < reaN n goal wanted nd F then reaN n goal wanted nd F else R.1) - 1
        rw [if_neg (by omega), hs9 129 32 (by omega)]; exact c7 z
      · show 0 < (if R.1 < reaN n goal wanted nd F then reaN n goal wanted nd F else R.1) → ∀ k, k < hours → I9 150 k = nI ((if R.1 < reaN n goal wanted nd F then mv else R.2.1) k)
        rw [if_neg (by omega), if_neg (by omega)]
        exact fun z k hk => by rw [hs9 150 k (by omega)]; exact c8 z k hk
    have took : ∀ Ia : IT, R.1 < reaN n goal wanted nd F → (∀ b k, ¬ (b = 129 ∧ k = 32) → Ia b k = I9 b k) → (aim = 3 → Ia 129 32 = nI (reaN n goal wanted nd F) - 1) → CV g (d + 2) iX11_takes [rf g 129, .int (nI hours)] Ia X (fun I14 X15 => KV I14 X15) := by
      intro Ia hlt hsa h3
      refine c_X11_takes hh4 (fun I' h' t1 t2 => ?_)
      have hs' : ∀ b k, ¬ (b = 129 ∧ 31 ≤ k ∧ k ≤ 32) → b ≠ 150 → I' b k = I9 b k := fun b k hb hb2 => by rw [h' b k (by omega), hsa b k (by omega)]
      refine hK I' (fun b k hb => ?_) ⟨?_, ?_, ?_, ?_, ?_, fun z => ?_, fun z => ?_, ?_⟩
      · rw [hs' b k (by omega) (by omega), hs9 b k (by omega)]
      · rw [hs' 129 36 (by omega) (by omega)]; exact b36
      · rw [hs' 129 34 (by omega) (by omega)]; exact b34
      · rw [hs' 129 35 (by omega) (by omega)]; exact b35
      · rw [hs' 129 33 (by omega) (by omega)]; exact b33
      · show (if R.1 < reaN n goal wanted nd F then reaN n goal wanted nd F else R.1) ≤ 6
        rw [if_pos hlt]; exact hr
      · show I' 129 31 = if (if R.1 < reaN n goal wanted nd F then reaN n goal wanted nd F else R.1) = 0 then 0 else 1
        rw [if_pos hlt, if_neg (by omega)]; exact t1
      · show I' 129 32 = nI (if R.1 < reaN n goal wanted nd F then reaN n goal wanted nd F else R.1) - 1
        rw [if_pos hlt, h' 129 32 (by omega)]; exact h3 z
      · show 0 < _ → ∀ k, k < hours → I' 150 k = nI ((if R.1 < reaN n goal wanted nd F then mv else R.2.1) k)
        rw [if_pos hlt]
        intro _ k hk
        rw [t2 k hk, hsa 149 k (by omega), hs9 149 k (by omega)]
        exact hmv k hk
    rw [q1, q2, q3, q4, b36]
    unfold AG at hag
    have hmet : (aim = 1 ∨ aim = 4) → (I9 129 31 = 0 ↔ R.1 = 0) := by
      intro z
      rw [hs9 129 31 (by omega), c6 z]
      by_cases y : R.1 = 0
      · rw [if_pos y]; exact ⟨fun _ => y, fun _ => rfl⟩
      · rw [if_neg y]; exact ⟨fun c => absurd c (by decide), fun c => absurd c y⟩
    refine ⟨fun z => ?_, fun z1 => ⟨fun z => ?_, fun z2 => ⟨fun z => ?_, fun z3 => ⟨fun z => ?_, fun z4 => ?_⟩⟩⟩⟩
    · have hg : goal = 1 := by omega
      have re : reaN n goal wanted nd F = if wanted < n ∧ F (10 + wanted) = 1 then 1 else 0 := by unfold reaN; rw [if_pos hg]
      rw [hmet (Or.inl z)]
      refine ⟨fun y => keep (by rw [re]; split <;> omega), fun y => c_X11_has (by omega) hwn (fun b => t_one (took I9 ?_ (fun _ _ _ => rfl) (fun q => by omega))) (fun b => t_zero (keep ?_))⟩
      · rw [re, if_pos (hbit.mp b)]; omega
      · rw [re, if_neg (fun q => b (hbit.mpr q))]; omega
    · exact keep (by unfold reaN; rw [if_neg (by omega), if_neg (by omega), if_neg (by omega)]; omega)
    · have hg : goal = 2 := by omega
      have re : reaN n goal wanted nd F = pop (bset F n) + 1 := by unfold reaN; rw [if_neg (by omega), if_pos hg]
      refine c_X11_bits (by omega) ?_
      rw [hs9 129 32 (by omega), c7 z, ← nI_pred (pop (bset F n)), ← re, pm1_le _ (by omega) _ (by omega)]
      refine ⟨keep, fun y => c_X11_bits (by omega) (fun I24 e24 => took I24 (by omega) (fun b k hb => by rw [e24, set2_at, if_neg hb]) (fun _ => ?_))⟩
      rw [e24, set2_at, if_pos ⟨rfl, rfl⟩, re, nI_pred]
    · have hg : goal = 3 := by omega
      have re : reaN n goal wanted nd F = if servB nd F n then 1 else 0 := by unfold reaN; rw [if_neg (by omega), if_neg (by omega), if_pos hg]
      rw [hmet (Or.inr z)]
      refine ⟨fun y => keep (by rw [re]; split <;> omega), fun y => c_X11_isServed hf (he.same (fun b k hb => hs9 b k (by omega))) (fun k hk => by rw [hs9 142 _ (by omega)]; exact hF0 k hk) hw hm (fun b => t_one (took I9 ?_ (fun _ _ _ => rfl) (fun q => by omega))) (fun b => t_zero (keep ?_))⟩
      · rw [re, b]; show R.1 < 1; omega
      · rw [re, b]; exact Nat.zero_le _
    · exact keep (by unfold reaN; rw [if_neg (by omega), if_neg (by omega), if_neg (by omega)]; omega)
  refine c_X11_has (by omega) hwn (fun z => t_one (fun I9 e9 => ?_)) (fun z => t_zero (fun I9 e9 => ?_))
  · exact fin 1 I9 (if_pos (hbit.mp z)) e9
  · exact fin 0 I9 (if_neg (fun q => z (hbit.mpr q))) e9
end T68
