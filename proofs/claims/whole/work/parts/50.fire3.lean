/-! ===== pass, act, become; the states stay well made ===== -/
theorem fire_in {a : Nat} (h : a ∈ fireL) : 30 ≤ a ∧ a + 2 ≤ 127 := by
  have : ∀ a ∈ fireL, 30 ≤ a ∧ a + 2 ≤ 127 := by decide
  exact this a h
theorem fire_apart {a b : Nat} (ha : a ∈ fireL) (hb : b ∈ fireL) (h : a ≠ b) : a + 3 ≤ b ∨ b + 3 ≤ a := by
  have : ∀ a ∈ fireL, ∀ b ∈ fireL, a ≠ b → a + 3 ≤ b ∨ b + 3 ≤ a := by decide
  exact this a ha b hb h
theorem SF.rf {a : Nat} {I : IT} : SF a I I := Same.rf
theorem SF.trans {a : Nat} {I I' I2 : IT} (h : SF a I I') (h2 : SF a I' I2) : SF a I I2 := Same.trans h h2
section T50
variable {g : OG} {d : Nat} {I : IT} {X : XT} {K : Int32 → IT → XT → Prop} {KV : IT → XT → Prop}
variable {n w : Nat} {kd nd wd : Nat → Nat} {F : Nat → Nat} {m a : Nat}
theorem iE.fire {I I' : IT} (h : iE I n w kd nd wd) (ha : a ∈ fireL) (hs : SF a I I') : iE I' n w kd nd wd := by
  have hi := fire_in ha
  exact h.same (fun b k hb => hs b k (by omega))
theorem FR.apart {I I' : IT} {b : Nat} (h : FR I b n F) (ha : a ∈ fireL) (hb : b ∈ fireL) (hab : a ≠ b) (hs : SF a I I') : FR I' b n F := by
  have hi := fire_apart ha hb hab
  exact h.same (fun c k hc => hs c k (by omega))
/-- an hour: the houses one by one -/
theorem lp_X1_pass (ha : a ∈ fireL) (h66 : a ≠ 66) (hw : WF n F m) (hm : m ≤ 900) (I0 : IT) (hK : ∀ I', SF a I0 I' → FR I' a n (passN n kd F) → KV I' X) : ∀ (q i : Nat) (I : IT), i + q = n → iE I n w kd nd wd → SF a I0 I → FR I a n (passI n i kd F) →
    SR g (d + 3) iX1_pass 7 [(0, rf g a), (1, .int (nI (bset F n))), (2, .int (nI i))] I X (qV KV) := by
  have hbl := bset_lt F n
  intro q
  induction q with
  | zero =>
    intro i I hi he hs hf
    have hn := he.1.2.2
    obtain rfl : i = n := by omega
    obtain ⟨f1, f2, f3, f4, f5⟩ := hf
    refine rg_X1_pass_7 ha ?_
    rw [lane24 h66, he.1.1]
    refine ⟨fun _ I1 e1 I2 e2 => ?_, fun c => absurd (Int32.le_refl _) c⟩
    rw [f3, passI_hi hn (by omega), nI_1] at e1
    subst e1; subst e2
    refine hK _ (hs.trans (Same.step (Same.set (by omega)) (by omega))) ⟨fun h hh => ?_, ?_, ?_, ?_, ?_⟩
    · rw [set2_at, if_neg (by omega), set2_at, if_neg (by omega), set2_at, if_neg (by omega), set2_at, if_neg (by omega)]
      unfold passN
      rw [mW_at, if_neg (by omega), mW_at, if_neg (by omega), mW_at, if_neg (by omega), mW_at, if_neg (by omega)]
      exact f1 h hh
    · rw [set2_at, if_neg (by omega), set2_at, if_neg (by omega), f2]
      unfold passN
      rw [bset_m5 (fun h hh => by omega), bset_m5 (fun h hh => by omega)]
    · rw [set2_at, if_neg (by omega), set2_at, if_pos ⟨rfl, rfl⟩]
      unfold passN
      rw [mW_at, if_neg (by omega), mW_at, if_pos rfl]
    · rw [set2_at, if_neg (by omega), set2_at, if_neg (by omega), f4]
      unfold passN
      rw [mW_at, if_neg (by omega), mW_at, if_neg (by omega)]
    · rw [set2_at, if_pos ⟨rfl, rfl⟩]
      unfold passN
      rw [mW_at, if_pos rfl]
      rfl
  | succ q ih =>
    intro i I hi he hs hf
    have hn := he.1.2.2
    have hb2 : (2 : Nat) ^ n ≤ 2 ^ 5 := Nat.pow_le_pow_right (by decide) hn
    obtain ⟨v1, v2, v3, v4⟩ := hw.1 i (by omega)
    have hat := passI_at (n := n) (i := i) (kd := kd) (F := F) (j := 0) (by omega)
    have h15 := passI_hi (n := n) (i := i) (kd := kd) (F := F) (j := 15) (by omega) (by omega)
    refine rg_X1_pass_7 ha ?_
    rw [lane24 h66, he.1.1, bit_at (by omega) (by omega), bset_bit]
    refine ⟨fun c => absurd c (nI_ge (by omega) (by omega)), fun _ => ?_⟩
    by_cases hb : F (10 + i) = 1
    · rw [if_pos ⟨by omega, hb⟩]
      refine ⟨fun c => absurd c (by decide), fun _ => ?_⟩
      refine c_X1_feed (F := passI n i kd F) (by omega) ha h66 he hf (by rw [hat.2.2]; exact hb) (by rw [hat.1]; exact v1) (by rw [h15]; have := hw.2.1; omega) (fun I' hs' hf' x13 e13 => ?_)
      subst e13
      rw [nI_1]
      refine ih (i + 1) I' (by omega) (he.fire ha hs') (hs.trans hs') ?_
      rw [passI_b (by omega) hb]
      rw [hat.1, h15] at hf'
      exact hf'
    · rw [if_neg (fun zz => hb zz.2)]
      refine ⟨fun _ => ?_, fun c => absurd rfl c⟩
      refine en_X1_beside ?_
      rw [bes_iff hn (by omega), nI_clamp (by omega), nI_1]
      have hin : vp_in (nI i) 5 := vp_in_nI (by omega) (by decide)
      have hbb : besB n F i = 0 ∨ besB n F i = 1 := by unfold besB; split; exact Or.inr rfl; exact Or.inl rfl
      refine ⟨fun c x6 e6 => ?_, fun c => ⟨hin, hin, fun I9 e9 x10 e10 => ?_⟩⟩
      · subst e6
        refine ih (i + 1) I (by omega) he hs ?_
        have e : passI n (i + 1) kd F = passI n i kd F := by
          rw [passI_n (by omega) hb, c, Nat.sub_zero]
          funext j
          rw [mW_at]
          by_cases qj : j = 5 + i
          · rw [if_pos qj, qj]; exact hat.2.1.symm
          · rw [if_neg qj]
        rw [e]
        exact hf
      · subst e10
        have hb1 : besB n F i = 1 := hbb.resolve_left c
        obtain ⟨f1, f2, f3, f4, f5⟩ := hf
        rw [(f1 i (by omega)).2, hat.2.1, show (1 : Int32) = nI 1 from rfl, sub_max (by omega) (by decide)] at e9
        subst e9
        refine ih (i + 1) _ (by omega) (he.fire ha (Same.set (by omega))) (hs.trans (Same.set (by omega))) ?_
        rw [passI_n (by omega) hb, hb1]
        refine ⟨fun h hh => ?_, ?_, ?_, ?_, ?_⟩
        · rw [set2_at, if_neg (by omega), set2_at, mW_at, if_neg (by omega), mW_at]
          refine ⟨(f1 h hh).1, ?_⟩
          by_cases qh : h = i
          · rw [if_pos ⟨rfl, qh⟩, if_pos (by omega)]
          · rw [if_neg (fun zz => qh zz.2), if_neg (by omega)]; exact (f1 h hh).2
        · rw [set2_at, if_neg (by omega), bset_m5 (fun h hh => by omega)]; exact f2
        · rw [set2_at, if_neg (by omega), mW_at, if_neg (by omega)]; exact f3
        · rw [set2_at, if_neg (by omega), mW_at, if_neg (by omega)]; exact f4
        · rw [set2_at, if_neg (by omega), mW_at, if_neg (by omega)]; exact f5
theorem c_X1_pass (ha : a ∈ fireL) (h66 : a ≠ 66) (he : iE I n w kd nd wd) (hf : FR I a n F) (hw : WF n F m) (hm : m ≤ 900) (hK : ∀ I', SF a I I' → FR I' a n (passN n kd F) → KV I' X) : CV g (d + 3) iX1_pass [rf g a] I X KV := by
  refine en_X1_pass ha (fun x1 e1 => ?_)
  rw [hf.2.1] at e1
  subst e1
  exact lp_X1_pass ha h66 hw hm I hK n 0 I (by omega) he SF.rf (by rw [passI_0]; exact hf)
theorem c_X1_act {dd : Nat} (hd : dok n dd) (ha : a ∈ fireL) (h66 : a ≠ 66) (he : iE I n w kd nd wd) (hf : FR I a n F) (hw : WF n F m) (hm : m ≤ 900) (hK : ∀ I', SF a I I' → FR I' a n (actN n kd F dd) → KV I' X) : CV g (d + 4) iX1_act [rf g a, .int (nI dd)] I X KV := by
  have hn := he.1.2.2
  have hdl : dd < 100 := by unfold dok at hd; omega
  have e40 : nI dd < 40 ↔ dd < 40 := nI_ltI (b := 40) (by omega) (by decide)
  have e36 : nI dd = 36 ↔ dd = 36 := nI_eqL 36 (by omega) (by decide)
  refine en_X1_act ha ?_
  rw [e40, e36]
  refine ⟨fun c => ⟨fun c2 => ?_, fun c2 => ?_⟩, fun c => ?_⟩
  · have hq : dd < 36 ∧ dd % 6 < n := by unfold dok at hd; omega
    refine c_X1_bring hq.1 hq.2 hn ha hf (fun I' hs hf' => hK I' hs ?_)
    unfold actN
    rw [if_neg (by omega), if_neg c2]
    exact hf'
  · refine c_X1_pass ha h66 he hf hw hm (fun I' hs hf' => hK I' hs ?_)
    unfold actN
    rw [if_neg (by omega), if_pos c2]
    exact hf'
  · have hq : 40 ≤ dd ∧ dd < 40 + n := by unfold dok at hd; omega
    rw [show (40 : Int32) = nI 40 from rfl, pk_sub hq.1]
    refine c_X1_light (by omega) hn ha hf (fun I' hs hf' => hK I' hs ?_)
    unfold actN
    rw [if_pos hq.1]
    exact hf'
/-- become: another Fire's state -/
theorem lp_X1_become {p : Nat} (ha : a ∈ fireL) (hp : p ∈ fireL) (hap : a ≠ p) (hn : n ≤ 5) (h16 : F 16 ≤ 1) (h17 : F 17 ≤ 1) (I0 : IT) (hK : ∀ I', SF a I0 I' → FR I' a n F → KV I' X) : ∀ (q i : Nat) (I : IT), i + q = 5 → SF a I0 I → FR I p n F → (∀ h, h < i → I (a + 1) h = I (p + 1) h ∧ I (a + 2) h = I (p + 2) h) →
    SR g (d + 1) iX1_become 2 [(0, rf g a), (1, rf g p), (2, .int (nI i))] I X (qV KV) := by
  have hi3 := fire_apart ha hp hap
  intro q
  induction q with
  | zero =>
    intro i I hi hs hf h0
    obtain rfl : i = 5 := by omega
    obtain ⟨f1, f2, f3, f4, f5⟩ := hf
    refine rg_X1_become_2 ha hp ⟨fun _ I1 e1 I2 e2 => ?_, fun c => absurd (by decide) c⟩
    have hb : ∀ {x : Nat}, x ≤ 1 → (nI x = 0 ∨ nI x = 1) := fun {x} hx => by
      rcases (show x = 0 ∨ x = 1 by omega) with e | e
      · left; rw [e]; rfl
      · right; rw [e]; rfl
    have k4 : I1 p 4 = nI (F 15) := by rw [e1, set2_at, if_neg (by omega)]; exact f3
    have k5 : I2 p 5 = nI (F 16) := by rw [e2, set2_at, if_neg (by omega), e1, set2_at, if_neg (by omega)]; exact f4
    rw [k5]
    refine ⟨hb h16, fun I3 e3 => ?_⟩
    have k6 : I3 p 6 = nI (F 17) := by rw [e3, set2_at, if_neg (by omega), e2, set2_at, if_neg (by omega), e1, set2_at, if_neg (by omega)]; exact f5
    rw [k6]
    refine ⟨hb h17, fun I4 e4 => ?_⟩
    rw [f2] at e1
    rw [k4] at e2
    subst e1; subst e2; subst e3; subst e4
    refine hK _ (hs.trans (Same.step (Same.step (Same.step (Same.set (by omega)) (by omega)) (by omega)) (by omega))) ⟨fun h hh => ?_, ?_, ?_, ?_, ?_⟩
    · rw [set2_at, if_neg (by omega), set2_at, if_neg (by omega), set2_at, if_neg (by omega), set2_at, if_neg (by omega), set2_at, if_neg (by omega), set2_at, if_neg (by omega), set2_at, if_neg (by omega), set2_at, if_neg (by omega)]
      rw [(h0 h (by omega)).1, (h0 h (by omega)).2]
      exact f1 h hh
    · rw [set2_at, if_neg (by omega), set2_at, if_neg (by omega), set2_at, if_neg (by omega), set2_at, if_pos ⟨rfl, rfl⟩]
    · rw [set2_at, if_neg (by omega), set2_at, if_neg (by omega), set2_at, if_pos ⟨rfl, rfl⟩]
    · rw [set2_at, if_neg (by omega), set2_at, if_pos ⟨rfl, rfl⟩]
    · rw [set2_at, if_pos ⟨rfl, rfl⟩]
  | succ q ih =>
    intro i I hi hs hf h0
    have hin : vp_in (nI i) 5 := vp_in_nI (by omega) (by decide)
    refine rg_X1_become_2 ha hp ⟨fun c => absurd c (show ¬ nI 5 ≤ nI i from nI_ge (by omega) (by omega)), fun _ => ?_⟩
    rw [nI_clamp (by omega), nI_1]
    refine ⟨hin, hin, fun I9 e9 => ⟨hin, hin, fun I12 e12 x13 e13 => ?_⟩⟩
    subst e13
    have hs2 : SF a I I12 := by rw [e12, e9]; exact Same.step (Same.set (by omega)) (by omega)
    refine ih (i + 1) I12 (by omega) (hs.trans hs2) (hf.apart ha hp hap hs2) (fun h hh => ?_)
    rw [e12, e9]
    by_cases qh : h = i
    · subst qh
      refine ⟨?_, ?_⟩
      · rw [set2_at, if_neg (by omega), set2_at, if_pos ⟨rfl, rfl⟩, set2_at, if_neg (by omega), set2_at, if_neg (by omega)]
      · rw [set2_at, if_pos ⟨rfl, rfl⟩, set2_at, if_neg (by omega), set2_at, if_neg (by omega), set2_at, if_neg (by omega)]
    · have := h0 h (by omega)
      refine ⟨?_, ?_⟩
      · rw [set2_at, if_neg (by omega), set2_at, if_neg (by omega), set2_at, if_neg (by omega), set2_at, if_neg (by omega)]; exact this.1
      · rw [set2_at, if_neg (by omega), set2_at, if_neg (by omega), set2_at, if_neg (by omega), set2_at, if_neg (by omega)]; exact this.2
theorem c_X1_become {p : Nat} (ha : a ∈ fireL) (hp : p ∈ fireL) (hap : a ≠ p) (hn : n ≤ 5) (hf : FR I p n F) (h16 : F 16 ≤ 1) (h17 : F 17 ≤ 1) (hK : ∀ I', SF a I I' → FR I' a n F → KV I' X) : CV g (d + 1) iX1_become [rf g a, rf g p] I X KV :=
  en_X1_become ha hp (lp_X1_become ha hp hap hn h16 h17 I hK 5 0 I (by omega) SF.rf hf (fun h hh => by omega))
-- well made
theorem WF.pass (hw : WF n F m) (hn : n ≤ 5) (hm : m ≤ 900) : WF n (passN n kd F) (m + 1) := by
  obtain ⟨h1, h2, h3, h4, h5⟩ := hw
  have P : ∀ j, j ≠ 15 → j ≠ 17 → passN n kd F j = passI n n kd F j := fun j a1 a2 => by unfold passN; rw [mW_at, if_neg a2, mW_at, if_neg a1]
  have p15 : passN n kd F 15 = F 15 + 1 := by unfold passN; rw [mW_at, if_neg (by omega), mW_at, if_pos rfl]
  have p17 : passN n kd F 17 = 0 := by unfold passN; rw [mW_at, if_pos rfl]
  have pW : ∀ j, j < n → passN n kd F j = houW kd F j := fun j hj => by rw [P j (by omega) (by omega)]; unfold passI; rw [if_pos hj]
  have pD : ∀ j, j < n → passN n kd F (5 + j) = houD n F j := fun j hj => by rw [P _ (by omega) (by omega)]; unfold passI; rw [if_neg (by omega), if_pos (by omega), show 5 + j - 5 = j by omega]
  have pB : ∀ j, j < n → passN n kd F (10 + j) = houB kd F j := fun j hj => by rw [P _ (by omega) (by omega)]; unfold passI; rw [if_neg (by omega), if_neg (by omega), if_pos (by omega), show 10 + j - 10 = j by omega]
  have pO : ∀ j, j ≠ 15 → j ≠ 17 → ¬ j < n → ¬ (5 ≤ j ∧ j < 5 + n) → ¬ (10 ≤ j ∧ j < 10 + n) → passN n kd F j = F j := fun j a1 a2 a3 a4 a5 => by rw [P j a1 a2]; unfold passI; rw [if_neg a3, if_neg a4, if_neg a5]
  have all3 : ∀ j, j < n → houW kd F j ≤ 9 ∧ houD n F j ≤ 3 ∧ houB kd F j ≤ 1 ∧ (houB kd F j = 1 → 0 < houW kd F j) := by
    intro j hj
    obtain ⟨v1, v2, v3, v4⟩ := h1 j hj
    unfold houW houD houB
    by_cases hb : F (10 + j) = 1
    · rw [if_pos hb, if_pos hb, if_pos hb]
      refine ⟨by omega, v2, ?_, ?_⟩
      · split <;> omega
      · split
        · intro _; assumption
        · intro q; omega
    · rw [if_neg hb, if_neg hb, if_neg hb]
      exact ⟨v1, by omega, v3, fun q => absurd q hb⟩
  refine ⟨fun h hh => ?_, by rw [p15]; omega, ?_, by rw [p17]; omega, fun k hk => ?_⟩
  · rw [pW h hh, pD h hh, pB h hh]
    exact all3 h hh
  · rw [pO 16 (by omega) (by omega) (by omega) (by omega) (by omega)]; exact h3
  · by_cases a1 : k = 15
    · subst a1; rw [p15]; omega
    · by_cases a2 : k = 17
      · subst a2; rw [p17]; omega
      · by_cases a3 : k < n
        · rw [pW k a3]; have := all3 k a3; omega
        · by_cases a4 : 5 ≤ k ∧ k < 5 + n
          · have := all3 (k - 5) (by omega)
            have e := pD (k - 5) (by omega)
            rw [show 5 + (k - 5) = k by omega] at e
            rw [e]; omega
          · by_cases a5 : 10 ≤ k ∧ k < 10 + n
            · have := all3 (k - 10) (by omega)
              have e := pB (k - 10) (by omega)
              rw [show 10 + (k - 10) = k by omega] at e
              rw [e]; omega
            · rw [pO k a1 a2 a3 a4 a5]; exact h5 k hk
theorem WF.carry {k : Nat} (hw : WF n F m) (hn : n ≤ 5) (hk : k < n) (h0 : 0 < F k) : WF n (carryN F k) m := by
  obtain ⟨h1, h2, h3, h4, h5⟩ := hw
  unfold carryN
  refine ⟨fun h hh => ?_, ?_, ?_, ?_, fun j hj => ?_⟩
  · rw [mW_at, if_neg (by omega), mW_at, if_neg (by omega), mW_at, if_neg (by omega), mW_at, if_neg (by omega), mW_at, if_neg (by omega), mW_at]
    obtain ⟨v1, v2, v3, v4⟩ := h1 h hh
    by_cases q : 10 + h = 10 + k
    · rw [if_pos q]
      obtain rfl : h = k := by omega
      exact ⟨v1, v2, by omega, fun _ => h0⟩
    · rw [if_neg q]; exact ⟨v1, v2, v3, v4⟩
  · rw [mW_at, if_neg (by omega), mW_at, if_neg (by omega)]; exact h2
  · rw [mW_at, if_neg (by omega), mW_at, if_neg (by omega)]; exact h3
  · rw [mW_at, if_pos rfl]; omega
  · rw [mW_at]
    split
    · omega
    · rw [mW_at]
      split
      · omega
      · exact h5 j hj
theorem WF.light {k : Nat} (hw : WF n F m) (hn : n ≤ 5) (hk : k < n) (h0 : 0 < F k) : WF n (lightN F k) m := by
  obtain ⟨h1, h2, h3, h4, h5⟩ := hw
  unfold lightN
  refine ⟨fun h hh => ?_, ?_, ?_, ?_, fun j hj => ?_⟩
  · rw [mW_at, if_neg (by omega), mW_at, if_neg (by omega), mW_at, if_neg (by omega), mW_at, if_neg (by omega), mW_at]
    obtain ⟨v1, v2, v3, v4⟩ := h1 h hh
    by_cases q : 10 + h = 10 + k
    · rw [if_pos q]
      obtain rfl : h = k := by omega
      exact ⟨v1, v2, by omega, fun _ => h0⟩
    · rw [if_neg q, mW_at, if_neg (by omega)]; exact ⟨v1, v2, v3, v4⟩
  · rw [mW_at, if_neg (by omega), mW_at, if_neg (by omega)]; exact h2
  · rw [mW_at, if_neg (by omega), mW_at, if_pos rfl]; omega
  · rw [mW_at, if_neg (by omega), mW_at, if_neg (by omega)]; exact h4
  · rw [mW_at]
    split
    · omega
    · rw [mW_at]
      split
      · omega
      · exact h5 j hj
end T50
