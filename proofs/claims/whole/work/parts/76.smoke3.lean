/-! ===== smoke: whether the match is struck does not matter for the count ===== -/
def E16 (F G : Nat → Nat) : Prop := ∀ k, k ≠ 16 → F k = G k
section T76
variable {n w : Nat} {kd nd wd bk : Nat → Nat} {F G : Nat → Nat}
theorem E16.pass (h : E16 F G) (hn : n ≤ 5) : E16 (passN n kd F) (passN n kd G) := by
  intro k hk
  unfold passN
  rw [mW_at, mW_at, mW_at, mW_at, h 15 (by omega)]
  by_cases e1 : k = 17
  · rw [if_pos e1, if_pos e1]
  rw [if_neg e1, if_neg e1]
  by_cases e2 : k = 15
  · rw [if_pos e2, if_pos e2]
  rw [if_neg e2, if_neg e2]
  unfold passI
  by_cases c1 : k < n
  · rw [if_pos c1, if_pos c1]
    unfold houW
    rw [h (10 + k) (by omega), h k (by omega), h 15 (by omega)]
  rw [if_neg c1, if_neg c1]
  by_cases c2 : 5 ≤ k ∧ k < 5 + n
  · rw [if_pos c2, if_pos c2]
    have hb : besB n F (k - 5) = besB n G (k - 5) := by
      unfold besB
      rw [h (10 + (k - 5 + 1)) (by omega), h (10 + (k - 5 - 1)) (by omega)]
    unfold houD
    rw [hb, h (10 + (k - 5)) (by omega), h (5 + (k - 5)) (by omega)]
  rw [if_neg c2, if_neg c2]
  by_cases c3 : 10 ≤ k ∧ k < 10 + n
  · rw [if_pos c3, if_pos c3]
    unfold houB
    rw [h (10 + (k - 10)) (by omega), h (k - 10) (by omega), h 15 (by omega)]
  rw [if_neg c3, if_neg c3]
  exact h k hk
theorem E16.mvd (h : E16 F G) (i : Nat) : E16 (mvd F i) (mvd G i) := by
  intro k hk
  unfold Jvm.Pilot.COneMatchLaw_law_r6555_71b187.mvd
  split
  · exact h k hk
  · unfold carryN
    rw [mW_at, mW_at, mW_at, mW_at, h k hk]
theorem E16.mvB (h : E16 F G) (hn : n ≤ 5) (i : Nat) : mvB n w kd wd F i = mvB n w kd wd G i := by
  have key : mvN n w kd wd F i ↔ mvN n w kd wd G i := by
    unfold mvN canN catchN
    by_cases q : i / 6 < n ∧ i % 6 < n
    · rw [h 17 (by omega), h (10 + i / 6) (by omega), h (10 + i % 6) (by omega), h 15 (by omega), h (i % 6) (by omega), h (5 + i % 6) (by omega)]
    · exact ⟨fun z => absurd ⟨z.2.2.1.1, z.2.2.2.1.1⟩ q, fun z => absurd ⟨z.2.2.1.1, z.2.2.2.1.1⟩ q⟩
  rw [Bool.eq_iff_iff, mvB_iff, mvB_iff]
  exact key
theorem E16.bset (h : E16 F G) (hn : n ≤ 5) : bset F n = bset G n := bset_cong (fun j hj => by rw [h (10 + j) (by omega)])
theorem sum_cong {f e : Nat → Nat} (h : ∀ i, f i = e i) : ∀ q i, sumS f q i = sumS e q i
  | 0, _ => rfl
  | q + 1, i => by
    show f i + sumS f q (i + 1) = e i + sumS e q (i + 1)
    rw [h i, sum_cong h q (i + 1)]
theorem smk_E16 (hn : n ≤ 5) : ∀ (r p : Nat) (F G : Nat → Nat), E16 F G → smkN n w kd wd bk r p F = smkN n w kd wd bk r p G
  | 0, _, _, _, _ => rfl
  | r + 1, p, F, G, h => by
    rw [smkN_s, smkN_s]
    refine sum_cong (fun i => ?_) 37 0
    unfold stM
    have hp := (h.mvd i).pass (kd := kd) hn
    rw [h.mvB hn i, hp.bset hn, smk_E16 hn r (p + 1) _ _ hp]
end T76
