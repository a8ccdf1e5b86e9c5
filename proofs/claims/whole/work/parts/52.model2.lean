/-! ===== the model: an hour, copies, counts of bits, moves ===== -/
/-- how many bits, for sets of at most five houses -/
def pop (b : Nat) : Nat := b % 2 + b / 2 % 2 + b / 4 % 2 + b / 8 % 2 + b / 16 % 2
theorem pop_step : ∀ b, b < 32 → 0 < b → pop b = 1 + pop (b &&& (b - 1)) ∧ (b &&& (b - 1)) < b ∧ nI b &&& (nI b - 1) = nI (b &&& (b - 1)) := by decide +kernel
theorem pop_le : ∀ b, b < 32 → pop b ≤ 5 := by decide +kernel
theorem bc_all : ∀ b, b < 32 → (fun (l0 : Int32) => (fun (x1 : Int32) => (fun (x2 : Int32) => (fun (x3 : Int32) => (fun (x4 : Int32) => (x4 + ((x4.toUInt32 >>> ((16 : Int32).toUInt32 &&& Int32.toUInt32 31)).toInt32)) &&& 63) (x3 + ((x3.toUInt32 >>> ((8 : Int32).toUInt32 &&& Int32.toUInt32 31)).toInt32))) ((x2 + ((x2.toUInt32 >>> ((4 : Int32).toUInt32 &&& Int32.toUInt32 31)).toInt32)) &&& 252645135)) ((x1 &&& 858993459) + (((x1.toUInt32 >>> ((2 : Int32).toUInt32 &&& Int32.toUInt32 31)).toInt32) &&& 858993459))) (l0 - (((l0.toUInt32 >>> ((1 : Int32).toUInt32 &&& Int32.toUInt32 31)).toInt32) &&& 1431655765))) (nI b) = nI (pop b) := by decide +kernel
section T52
variable {g : OG} {d : Nat} {I : IT} {X : XT} {K : Int32 → IT → XT → Prop} {KV : IT → XT → Prop}
variable {n w : Nat} {kd nd wd : Nat → Nat} {F : Nat → Nat} {m f a : Nat}
theorem c_J6_bitCount {b : Nat} (hb : b < 32) (hK : K (nI (pop b)) I X) : CI g (d + 1) iJ6_bitCount_0f7a4 [.int (nI b)] I X K := by
  have e := bc_all b hb
  refine en_J6_bitCount_0f7a4 (fun x1 e1 x2 e2 x3 e3 x4 e4 x5 e5 => ?_)
  subst e1; subst e2; subst e3; subst e4; subst e5
  rw [← e] at hK
  exact hK
theorem c_X1_alight (ha : a ∈ fireL) (hn : n ≤ 5) (hf : FR I a n F) (hK : K (nI (pop (bset F n))) I X) : CI g (d + 2) iX1_alight [rf g a] I X K := by
  have hbl := bset_lt F n
  have hb2 : (2 : Nat) ^ n ≤ 2 ^ 5 := Nat.pow_le_pow_right (by decide) hn
  refine en_X1_alight ha ?_
  rw [hf.2.1]
  exact c_J6_bitCount (by omega) hK
theorem lp_X11_bits {r : Nat} (hK : K (nI r) I X) : ∀ (q b c : Nat), b ≤ q → b < 32 → c + pop b = r → SR g (d + 1) iX11_bits 4 [(1, .int (nI c)), (2, .int (nI b))] I X (qI K) := by
  intro q
  induction q with
  | zero =>
    intro b c hb hb2 hr
    obtain rfl : b = 0 := by omega
    obtain rfl : c = r := hr
    exact rg_X11_bits_4 ⟨fun _ => hK, fun c => absurd rfl c⟩
  | succ q ih =>
    intro b c hb hb2 hr
    rcases Nat.eq_zero_or_pos b with h0 | h0
    · subst h0
      obtain rfl : c = r := hr
      exact rg_X11_bits_4 ⟨fun _ => hK, fun c => absurd rfl c⟩
    · obtain ⟨p1, p2, p3⟩ := pop_step b hb2 h0
      refine rg_X11_bits_4 ⟨fun c => absurd c (nI_ne0 h0 (by omega)), fun _ x1 e1 x2 e2 => ?_⟩
      rw [p3] at e2
      subst e1; subst e2
      rw [nI_1]
      exact ih _ (c + 1) (by omega) (by omega) (by omega)
theorem c_X11_bits {b : Nat} (hb : b < 32) (hK : K (nI (pop b)) I X) : CI g (d + 1) iX11_bits [.int (nI b)] I X K :=
  en_X11_bits (lp_X11_bits hK b b 0 (Nat.le_refl b) hb (by omega))
theorem c_X11_isHouse {h : Int32} (he : iE I n w kd nd wd) (hT : vp_in h n → K 1 I X) (hF : ¬ vp_in h n → K 0 I X) : CI g (d + 2) iX11_isHouse [rf g 129, .int h] I X K := by
  refine en_X11_isHouse ?_
  rw [he.1.2.1]
  have hn := he.1.2.2
  exact c_X11_in (fun c => b_one (hT ((in_pred (by omega)).mp c))) (fun c => b_zero (hF (fun z => c ((in_pred (by omega)).mpr z))))
theorem c_X11_everybody (he : iE I n w kd nd wd) (hK : K (nI (2 ^ n - 1)) I X) : CI g (d + 1) iX11_everybody [rf g 129] I X K := by
  refine en_X11_everybody ?_
  rw [he.1.2.1, all_all n he.1.2.2]
  exact hK
theorem c_X11_isNone {mv : Nat} (h : mv ≤ 36) (hT : mv = 36 → K 1 I X) (hF : mv < 36 → K 0 I X) : CI g (d + 1) iX11_isNone [.int (nI mv)] I X K := by
  have e : nI mv = 36 ↔ mv = 36 := nI_eqL 36 (by omega) (by decide)
  refine en_X11_isNone ?_
  rw [e]
  exact ⟨fun c => hF (by omega), hT⟩
theorem c_X11_canMove {mv : Nat} (hmv : mv ≤ 36) (hf : f < 12) (he : iE I n w kd nd wd) (hF0 : FM I f F) (hw : WF n F m) (hm : m ≤ 900) (hT : (mv = 36 ∨ mvN n w kd wd F mv) → K 1 I X) (hF : ¬ (mv = 36 ∨ mvN n w kd wd F mv) → K 0 I X) : CI g (d + 3) iX11_canMove [rf g 129, .int (nI f), .int (nI mv)] I X K := by
  have hn := he.1.2.2
  refine en_X11_canMove (c_X11_isNone hmv (fun c => t_one' (hT (Or.inl c))) (fun c => t_zero' ?_))
  rw [he.1.2.1, i_rem6 (by omega), i_div6 (by omega), nI_leI (by omega) (by omega), nI_leI (by omega) (by omega)]
  refine ⟨fun c1 => hF (fun z => ?_), fun c1 => ⟨fun c2 => hF (fun z => ?_), fun c2 => ?_⟩⟩
  · rcases z with z | z
    · omega
    · have := z.2.2.1.1; omega
  · rcases z with z | z
    · omega
    · have := z.2.2.2.1.1; omega
  · exact c_X11_canCarry hf (by omega) (by omega) he hF0 hw hm (fun q => t_one (hT (Or.inr ⟨c, q⟩))) (fun q => t_zero (hF (fun z => z.elim (fun z => by omega) (fun z => q z.2))))
theorem lp_X11_copyTo {s t : Nat} (hs12 : s < 12) (ht12 : t < 12) (hst : s ≠ t) (I0 : IT) (hF0 : FM I0 s F) (hK : ∀ I', SMf t I0 I' → FM I' t F → KV I' X) : ∀ (q i : Nat) (I : IT), i + q = 18 → SMf t I0 I → (∀ k, k < i → I 142 (18 * t + k) = nI (F k)) →
    SR g (d + 1) iX11_copyTo 2 [(0, rf g 129), (1, .int (nI s)), (2, .int (nI t)), (3, .int (nI i))] I X (qV KV) := by
  intro q
  induction q with
  | zero =>
    intro i I hi hs h0
    obtain rfl : i = 18 := by omega
    exact rg_X11_copyTo_2 ⟨fun _ => hK I hs h0, fun c => absurd (by decide) c⟩
  | succ q ih =>
    intro i I hi hs h0
    refine rg_X11_copyTo_2 ⟨fun c => absurd c (show ¬ nI 18 ≤ nI i from nI_ge (by omega) (by omega)), fun _ => ?_⟩
    rw [ix18, ix18, nI_clamp (n := 18 * s + i) (by omega), nI_clamp (n := 18 * t + i) (by omega), nI_1]
    refine ⟨vp_in_nI (by omega) (by decide), vp_in_nI (by omega) (by decide), fun I3 e3 x4 e4 => ?_⟩
    subst e3; subst e4
    refine ih (i + 1) _ (by omega) (hs.trans (Same.set (by omega))) (fun k hk => ?_)
    rw [set2_at]
    by_cases qk : k = i
    · rw [if_pos ⟨rfl, by omega⟩, (hF0.other hst hs) i (by omega), qk]
    · rw [if_neg (by omega)]; exact h0 k (by omega)
theorem c_X11_copyTo {s t : Nat} (hs12 : s < 12) (ht12 : t < 12) (hst : s ≠ t) (hF0 : FM I s F) (hK : ∀ I', SMf t I I' → FM I' t F → KV I' X) : CV g (d + 1) iX11_copyTo [rf g 129, .int (nI s), .int (nI t)] I X KV :=
  en_X11_copyTo (lp_X11_copyTo hs12 ht12 hst I hF0 hK 18 0 I (by omega) SMf.rf (fun k hk => by omega))
theorem FM.set1 {k v : Nat} (hk : k < 18) (hF0 : FM I f F) : FM (set2 I 142 (18 * f + k) (nI v)) f (mW F k v) := fun j hj => by
  rw [set2_at, mW_at]
  by_cases q : j = k
  · rw [if_pos ⟨rfl, by omega⟩, if_pos q]
  · rw [if_neg (by omega), if_neg q]; exact hF0 j hj
theorem FM.ex {G : Nat → Nat} (hF0 : FM I f F) (h : F = G) : FM I f G := h ▸ hF0
theorem l18 (f c : Nat) : nI (18 * f) + nI c = nI (18 * f + c) := nI_add _ _
theorem l18_15 (f : Nat) : nI (18 * f) + 15 = nI (18 * f + 15) := nI_add _ 15
theorem l18_17 (f : Nat) : nI (18 * f) + 17 = nI (18 * f + 17) := nI_add _ 17
theorem l18_5 (f j : Nat) : nI (18 * f) + 5 + nI j = nI (18 * f + (5 + j)) := by
  show nI (18 * f) + nI 5 + nI j = _
  rw [nI_add, nI_add, Nat.add_assoc]
theorem l18_10 (f j : Nat) : nI (18 * f) + 10 + nI j = nI (18 * f + (10 + j)) := by
  show nI (18 * f) + nI 10 + nI j = _
  rw [nI_add, nI_add, Nat.add_assoc]
theorem lp_X11_passes (hf : f < 12) (hw : WF n F m) (hm : m ≤ 900) (I0 : IT) (hK : ∀ I', SMf f I0 I' → FM I' f (passN n kd F) → KV I' X) : ∀ (q i : Nat) (I : IT), i + q = n → iE I n w kd nd wd → SMf f I0 I → FM I f (passI n i kd F) →
    SR g (d + 2) iX11_passes 14 [(0, rf g 129), (2, .int (nI (bset F n))), (3, .int (nI (18 * f))), (4, .int (nI i))] I X (qV KV) := by
  have hbl := bset_lt F n
  intro q
  induction q with
  | zero =>
    intro i I hi he hs hF0
    have hn := he.1.2.2
    obtain rfl : i = n := by omega
    refine rg_X11_passes_14 ?_
    rw [he.1.2.1, l18_15, l18_17, nI_clamp (n := 18 * f + 15) (by omega), nI_clamp (n := 18 * f + 17) (by omega), hF0 15 (by omega), passI_hi hn (by omega), nI_1]
    refine ⟨fun _ => ⟨vp_in_nI (by omega) (by decide), vp_in_nI (by omega) (by decide), fun I3 e3 => ⟨vp_in_nI (by omega) (by decide), fun I5 e5 => ?_⟩⟩, fun c => absurd (Int32.le_refl _) c⟩
    subst e3; subst e5
    exact hK _ (hs.trans (Same.step (Same.set (by omega)) (by omega))) (FM.set1 (v := 0) (by omega) (FM.set1 (by omega) hF0))
  | succ q ih =>
    intro i I hi he hs hF0
    have hn := he.1.2.2
    have hb2 : (2 : Nat) ^ n ≤ 2 ^ 5 := Nat.pow_le_pow_right (by decide) hn
    obtain ⟨v1, v2, v3, v4⟩ := hw.1 i (by omega)
    have hat := passI_at (n := n) (i := i) (kd := kd) (F := F) (j := 0) (by omega)
    have h15 := passI_hi (n := n) (i := i) (kd := kd) (F := F) (j := 15) (by omega) (by omega)
    have hF15 := hw.2.1
    have nx : ∀ (J : IT), SMf f I J → FM J f (passI n (i + 1) kd F) → SR g (d + 2) iX11_passes 14 [(0, rf g 129), (2, .int (nI (bset F n))), (3, .int (nI (18 * f))), (4, .int (nI i + 1))] J X (qV KV) := fun J hJ hFJ => by
      rw [nI_1]
      exact ih (i + 1) J (by omega) (he.frame hJ) (hs.trans hJ) hFJ
    refine rg_X11_passes_14 ?_
    rw [he.1.2.1, l18_15, l18_17, l18_5, l18_10, l18, nI_clamp (n := 18 * f + 15) (by omega), nI_clamp (n := 18 * f + (5 + i)) (by omega), nI_clamp (n := 18 * f + (10 + i)) (by omega), nI_clamp (n := 18 * f + i) (by omega)]
    have i5 : vp_in (nI (18 * f + (5 + i))) 216 := vp_in_nI (by omega) (by decide)
    have i10 : vp_in (nI (18 * f + (10 + i))) 216 := vp_in_nI (by omega) (by decide)
    have i15 : vp_in (nI (18 * f + 15)) 216 := vp_in_nI (by omega) (by decide)
    have ii : vp_in (nI (18 * f + i)) 216 := vp_in_nI (by omega) (by decide)
    have wetv : I 142 (18 * f + (5 + i)) = nI (F (5 + i)) := by rw [hF0 _ (by omega), hat.2.1]
    refine ⟨fun c => absurd c (nI_ge (by omega) (by omega)), fun _ => c_X11_has (by omega) (by omega) (fun hb => t_one ?_) (fun hb => t_zero ?_)⟩
    · rw [bset_bit] at hb
      have hb1 : F (10 + i) = 1 := by
        by_cases qb : i < n ∧ F (10 + i) = 1
        · exact qb.2
        · rw [if_neg qb] at hb; omega
      refine ⟨i15, ?_⟩
      rw [hF0 15 (by omega), h15]
      refine c_X11_takesIn (by omega) (by omega) he ⟨ii, ?_⟩
      have htl := takeN_le (kd i) (F 15)
      rw [hF0 i (by omega), hat.1]
      have fin : ∀ (J : IT) (x : Nat), x = F i - takeN (kd i) (F 15) → SMf f I J → FM J f (mW (passI n i kd F) i x) → vp_in (nI (18 * f + i)) 216 ∧ (J 142 (18 * f + i) ≤ 0 → vp_in (nI (18 * f + (10 + i))) 216 ∧ ∀ I42 : IT, I42 = set2 J 142 (18 * f + (10 + i)) 0 → ∀ x43 : Int32, x43 = nI i + 1 → SR g (d + 2) iX11_passes 14 [(0, rf g 129), (2, .int (nI (bset F n))), (3, .int (nI (18 * f))), (4, .int x43)] I42 X (qV KV)) ∧ (¬ J 142 (18 * f + i) ≤ 0 → vp_in (nI (18 * f + (10 + i))) 216 ∧ ∀ I45 : IT, I45 = set2 J 142 (18 * f + (10 + i)) 1 → ∀ x46 : Int32, x46 = nI i + 1 → SR g (d + 2) iX11_passes 14 [(0, rf g 129), (2, .int (nI (bset F n))), (3, .int (nI (18 * f))), (4, .int x46)] I45 X (qV KV)) := by
        intro J x hx hJ hFJ
        have jv : J 142 (18 * f + i) = nI x := by rw [hFJ i (by omega), mW_at, if_pos rfl]
        rw [jv, nle0 (by omega)]
        refine ⟨ii, fun c => ⟨i10, fun I42 e42 x43 e43 => ?_⟩, fun c => ⟨i10, fun I45 e45 x46 e46 => ?_⟩⟩
        · subst e42; subst e43
          refine nx _ (hJ.trans (Same.set (by omega))) ((FM.set1 (v := 0) (by omega) hFJ).ex ?_)
          rw [passI_b (by omega) hb1, ← hx, if_neg (by omega)]
        · subst e45; subst e46
          refine nx _ (hJ.trans (Same.set (by omega))) ((FM.set1 (v := 1) (by omega) hFJ).ex ?_)
          rw [passI_b (by omega) hb1, ← hx, if_pos (by omega)]
      refine ⟨fun c => ⟨ii, fun I39 e39 => ?_⟩, fun c => ⟨ii, ii, fun I49 e49 => ?_⟩⟩
      · have hle := (nI_leI (by omega) (by omega)).mp c
        subst e39
        exact fin _ 0 (by omega) (Same.set (by omega)) (FM.set1 (v := 0) (by omega) hF0)
      · have hle : takeN (kd i) (F 15) < F i := Nat.not_le.mp (fun z => c ((nI_leI (by omega) (by omega)).mpr z))
        rw [pk_sub (by omega)] at e49
        subst e49
        exact fin _ _ rfl (Same.set (by omega)) (FM.set1 (by omega) hF0)
    · rw [bset_bit] at hb
      have hb1 : ¬ F (10 + i) = 1 := fun z => hb (if_pos ⟨by omega, z⟩)
      have dry : besB n F i = 1 → ∀ (x16 : Int32), x16 = nI i + 1 → ∀ J : IT, J = set2 I 142 (18 * f + (5 + i)) (nI (F (5 + i) - 1)) → SR g (d + 2) iX11_passes 14 [(0, rf g 129), (2, .int (nI (bset F n))), (3, .int (nI (18 * f))), (4, .int x16)] J X (qV KV) := by
        intro hbb x16 e16 J eJ
        subst e16; subst eJ
        refine nx _ (Same.set (by omega)) ((FM.set1 (by omega) hF0).ex ?_)
        rw [passI_n (by omega) hb1, hbb]
      have dryV : besB n F i = 1 → (vp_in (nI (18 * f + (5 + i))) 216 ∧ vp_in (nI (18 * f + (5 + i))) 216 ∧ (I 142 (18 * f + (5 + i)) ≤ 0 → vp_in (nI (18 * f + (5 + i))) 216 ∧ ∀ I15 : IT, I15 = set2 I 142 (18 * f + (5 + i)) (I 142 (18 * f + (5 + i)) - 0) → ∀ x16 : Int32, x16 = nI i + 1 → SR g (d + 2) iX11_passes 14 [(0, rf g 129), (2, .int (nI (bset F n))), (3, .int (nI (18 * f))), (4, .int x16)] I15 X (qV KV)) ∧ (¬ I 142 (18 * f + (5 + i)) ≤ 0 → vp_in (nI (18 * f + (5 + i))) 216 ∧ ∀ I18 : IT, I18 = set2 I 142 (18 * f + (5 + i)) (I 142 (18 * f + (5 + i)) - 1) → ∀ x19 : Int32, x19 = nI i + 1 → SR g (d + 2) iX11_passes 14 [(0, rf g 129), (2, .int (nI (bset F n))), (3, .int (nI (18 * f))), (4, .int x19)] I18 X (qV KV))) := by
        intro hbb
        rw [wetv, nle0 (by omega)]
        refine ⟨i5, i5, fun c => ⟨i5, fun I15 e15 x16 e16 => dry hbb x16 e16 I15 ?_⟩, fun c => ⟨i5, fun I18 e18 x19 e19 => dry hbb x19 e19 I18 ?_⟩⟩
        · rw [e15, c]; rfl
        · rw [e18, show (1 : Int32) = nI 1 from rfl, pk_sub (by omega)]
      have stay : besB n F i = 0 → ∀ (x16 : Int32), x16 = nI i + 1 → SR g (d + 2) iX11_passes 14 [(0, rf g 129), (2, .int (nI (bset F n))), (3, .int (nI (18 * f))), (4, .int x16)] I X (qV KV) := by
        intro hbb x16 e16
        subst e16
        refine nx I SMf.rf (hF0.ex ?_)
        rw [passI_n (by omega) hb1, hbb, Nat.sub_zero]
        funext j
        rw [mW_at]
        by_cases qj : j = 5 + i
        · rw [if_pos qj, qj]; exact hat.2.1
        · rw [if_neg qj]
      rw [nI_1]
      refine c_X11_has (by omega) (by omega) (fun b1 => t_one' ?_) (fun b1 => t_zero' ?_)
      · rw [bset_bit] at b1
        have : besB n F i = 1 := by
          unfold besB
          by_cases qb : i + 1 < n ∧ F (10 + (i + 1)) = 1
          · rw [if_pos (Or.inl qb)]
          · rw [if_neg qb] at b1; omega
        have h := dryV this
        rw [nI_1] at h
        exact h
      · rw [bset_bit] at b1
        have no1 : ¬ (i + 1 < n ∧ F (10 + (i + 1)) = 1) := fun z => b1 (if_pos z)
        rw [nle0 (by omega)]
        refine ⟨fun c x20 e20 => stay ?_ x20 (by rw [e20, nI_1]), fun c => ?_⟩
        · unfold besB
          rw [if_neg (fun z => z.elim no1 (fun z => by omega))]
        · rw [show (1 : Int32) = nI 1 from rfl, pk_sub (by omega)]
          refine c_X11_has (by omega) (by omega) (fun b2 => t_one ?_) (fun b2 => t_zero (fun x24 e24 => stay ?_ x24 (by rw [e24, nI_1])))
          · rw [bset_bit] at b2
            have : besB n F i = 1 := by
              unfold besB
              by_cases qb : i - 1 < n ∧ F (10 + (i - 1)) = 1
              · rw [if_pos (Or.inr ⟨by omega, qb.2⟩)]
              · rw [if_neg qb] at b2; omega
            have h := dryV this
            rw [nI_1] at h
            exact h
          · rw [bset_bit] at b2
            unfold besB
            rw [if_neg (fun z => z.elim no1 (fun z => b2 (if_pos ⟨by omega, z.2⟩)))]
theorem c_X11_passes (hf : f < 12) (he : iE I n w kd nd wd) (hF0 : FM I f F) (hw : WF n F m) (hm : m ≤ 900) (hK : ∀ I', SMf f I I' → FM I' f (passN n kd F) → KV I' X) : CV g (d + 3) iX11_passes [rf g 129, .int (nI f)] I X KV := by
  refine en_X11_passes (c_X11_burning hf he hF0 hw (fun x4 e4 => ?_))
  rw [show (18 : Int32) = nI 18 from rfl, pk_mul] at e4
  subst e4
  exact lp_X11_passes hf hw hm I hK n 0 I (by omega) he SMf.rf (by rw [passI_0]; exact hF0)
end T52
