/-! ===== lasts, dark, worst, where ===== -/
def PP (n : Nat) (kd : Nat → Nat) (F : Nat → Nat) : Nat → Nat → Nat
  | 0 => F
  | s + 1 => passN n kd (PP n kd F s)
/-- t is the hour in which w pieces are gone -/
def isLast (c hr w t : Nat) : Prop := ∀ s, sumT c hr s < w ↔ s < t
theorem sumT_mono (c hr : Nat) : ∀ (k s : Nat), sumT c hr s ≤ sumT c hr (s + k)
  | 0, s => Nat.le_refl _
  | k + 1, s => Nat.le_trans (sumT_mono c hr k s) (Nat.le_add_right _ _)
theorem takeN_4 (c x : Nat) (h : x % 4 = 0) : 1 ≤ takeN c x := by
  unfold takeN
  rw [if_pos (show x % 2 = 0 by omega), if_pos h]
  repeat (first | omega | split)
theorem sumT_4 (c hr i : Nat) : sumT c hr i + 1 ≤ sumT c hr (i + 4) := by
  have e : sumT c hr (i + 4) = sumT c hr i + takeN c (hr + i) + takeN c (hr + (i + 1)) + takeN c (hr + (i + 2)) + takeN c (hr + (i + 3)) := rfl
  rcases (show (hr + i) % 4 = 0 ∨ (hr + (i + 1)) % 4 = 0 ∨ (hr + (i + 2)) % 4 = 0 ∨ (hr + (i + 3)) % 4 = 0 by omega) with q | q | q | q
  · have := takeN_4 c _ q; omega
  · have := takeN_4 c _ q; omega
  · have := takeN_4 c _ q; omega
  · have := takeN_4 c _ q; omega
theorem sumT_36 (c hr : Nat) : 9 ≤ sumT c hr 36 := by
  have h1 : sumT c hr 0 + 1 ≤ sumT c hr 4 := sumT_4 c hr 0
  have h2 : sumT c hr 4 + 1 ≤ sumT c hr 8 := sumT_4 c hr 4
  have h3 : sumT c hr 8 + 1 ≤ sumT c hr 12 := sumT_4 c hr 8
  have h4 : sumT c hr 12 + 1 ≤ sumT c hr 16 := sumT_4 c hr 12
  have h5 : sumT c hr 16 + 1 ≤ sumT c hr 20 := sumT_4 c hr 16
  have h6 : sumT c hr 20 + 1 ≤ sumT c hr 24 := sumT_4 c hr 20
  have h7 : sumT c hr 24 + 1 ≤ sumT c hr 28 := sumT_4 c hr 24
  have h8 : sumT c hr 28 + 1 ≤ sumT c hr 32 := sumT_4 c hr 28
  have h9 : sumT c hr 32 + 1 ≤ sumT c hr 36 := sumT_4 c hr 32
  omega
theorem isLast_mk {c hr w t : Nat} (h1 : w ≤ sumT c hr t) (h2 : ∀ s, s < t → sumT c hr s < w) : isLast c hr w t := fun s => by
  constructor
  · intro q
    by_cases e : s < t
    · exact e
    · have := sumT_mono c hr (s - t) t
      rw [show t + (s - t) = s by omega] at this
      omega
  · exact h2 s
section T59
variable {g : OG} {d : Nat} {I : IT} {X : XT} {K : Int32 → IT → XT → Prop} {KV : IT → XT → Prop}
variable {n w : Nat} {kd nd wd : Nat → Nat} {F : Nat → Nat} {m f a D : Nat} {dd : Nat → Nat} {S : Nat → Nat → Nat}
theorem i_and (a b : Nat) : nI a &&& nI b = nI (a &&& b) := by
  apply Int32.toBitVec_inj.mp
  show (Int32.ofNat a).toBitVec &&& (Int32.ofNat b).toBitVec = (Int32.ofNat (a &&& b)).toBitVec
  simp only [Int32.toBitVec_ofNat', BitVec.ofNat_and]
theorem WF.PP (hw : WF n F m) (hn : n ≤ 5) : ∀ s, m + s ≤ 900 → WF n (PP n kd F s) (m + s)
  | 0, _ => hw
  | s + 1, h => WF.pass (WF.PP hw hn s (by omega)) hn (show m + s ≤ 900 by omega)
theorem passN_w {h : Nat} (hn : n ≤ 5) (hh : h < n) : passN n kd F h = houW kd F h := by
  unfold passN
  rw [mW_at, if_neg (by omega), mW_at, if_neg (by omega)]
  unfold passI
  rw [if_pos hh]
theorem passN_b {h : Nat} (hn : n ≤ 5) (hh : h < n) : passN n kd F (10 + h) = houB kd F h := by
  unfold passN
  rw [mW_at, if_neg (by omega), mW_at, if_neg (by omega)]
  unfold passI
  rw [if_neg (by omega), if_neg (by omega), if_pos (by omega), show 10 + h - 10 = h by omega]
theorem passN_15 : passN n kd F 15 = F 15 + 1 := by
  unfold passN
  rw [mW_at, if_neg (by omega), mW_at, if_pos rfl]
theorem PP_15 : ∀ s, PP n kd F s 15 = F 15 + s
  | 0 => rfl
  | s + 1 => by
    show passN n kd (PP n kd F s) 15 = _
    rw [passN_15, PP_15 s]
    rfl
/-- a house by itself -/
theorem PP_house {h : Nat} (hn : n ≤ 5) (hh : h < n) (hb : F (10 + h) = 1 → 0 < F h) : ∀ s, (PP n kd F s (10 + h) = 1 ↔ F (10 + h) = 1 ∧ sumT (kd h) (F 15) s < F h) ∧ (F (10 + h) = 1 → sumT (kd h) (F 15) s < F h → PP n kd F s h = F h - sumT (kd h) (F 15) s)
  | 0 => ⟨⟨fun q => ⟨q, hb q⟩, fun q => q.1⟩, fun _ _ => rfl⟩
  | s + 1 => by
    obtain ⟨i1, i2⟩ := PP_house hn hh hb s
    have hm : sumT (kd h) (F 15) (s + 1) = sumT (kd h) (F 15) s + takeN (kd h) (F 15 + s) := rfl
    show (passN n kd (PP n kd F s) (10 + h) = 1 ↔ _) ∧ (_ → _ → passN n kd (PP n kd F s) h = _)
    rw [passN_b hn hh, passN_w hn hh]
    unfold houB houW
    rw [PP_15]
    by_cases q : PP n kd F s (10 + h) = 1
    · obtain ⟨q1, q2⟩ := i1.mp q
      have q3 := i2 q1 q2
      rw [if_pos q, if_pos q, q3]
      constructor
      · by_cases z : 0 < F h - sumT (kd h) (F 15) s - takeN (kd h) (F 15 + s)
        · rw [if_pos z]
          exact ⟨fun _ => ⟨q1, by omega⟩, fun _ => rfl⟩
        · rw [if_neg z]
          exact ⟨fun c => absurd c (by decide), fun c => by omega⟩
      · intro _ c
        omega
    · rw [if_neg q, if_neg q]
      have : ¬ (F (10 + h) = 1 ∧ sumT (kd h) (F 15) s < F h) := fun z => q (i1.mpr z)
      exact ⟨⟨fun c => absurd c q, fun c => absurd ⟨c.1, by omega⟩ this⟩, fun c1 c2 => absurd ⟨c1, by omega⟩ this⟩
theorem lp_X1_woodLasts {j : Nat} (hj : j < n) (ha : a ∈ fireL) (h66 : a ≠ 66) (he : iE I n w kd nd wd) (hf : FR I a n F) (hw9 : F j ≤ 9) (h15 : F 15 ≤ 900) (hK : ∀ t, t ≤ 36 → isLast (kd j) (F 15) (F j) t → K (nI t) I X) : ∀ (q i : Nat), i + q = 36 → (∀ s, s < i → sumT (kd j) (F 15) s < F j) → ∀ l2 : Int32, (sumT (kd j) (F 15) i < F j ∧ l2 = nI (F j - sumT (kd j) (F 15) i) ∨ F j ≤ sumT (kd j) (F 15) i ∧ l2 ≤ 0) → SR g (d + 3) iX1_woodLasts 8 [(0, rf g a), (1, .int (nI j)), (2, .int l2), (3, .int (nI i))] I X (qI K) := by
  intro q
  induction q with
  | zero =>
    intro i hi hs l2 hl
    obtain rfl : i = 36 := by omega
    have := sumT_36 (kd j) (F 15)
    rcases hl with ⟨z, _⟩ | ⟨z, y⟩
    · omega
    · exact rg_X1_woodLasts_8 ha ⟨fun _ => hK 36 (by omega) (isLast_mk z hs), fun c => absurd y c⟩
  | succ q ih =>
    intro i hi hs l2 hl
    rcases hl with ⟨z, rfl⟩ | ⟨z, y⟩
    · refine rg_X1_woodLasts_8 ha ?_
      rw [nle0 (by omega), lane24 h66]
      refine ⟨fun c => by omega, fun _ => ⟨fun c => absurd c (nI_ge (a := i) (b := 64) (by omega) (by decide)), fun _ => ?_⟩⟩
      refine c_X3_kindOf hj he ?_
      rw [hf.2.2.1, nI_add]
      refine c_X2_takes (he.2.2.1 j hj).2.2 (by omega) (fun x7 e7 x8 e8 => ?_)
      subst e7; subst e8
      rw [nI_1]
      have ht := takeN_le (kd j) (F 15 + i)
      have hm : sumT (kd j) (F 15) (i + 1) = sumT (kd j) (F 15) i + takeN (kd j) (F 15 + i) := rfl
      refine ih (i + 1) (by omega) (fun s hs' => ?_) _ ?_
      · by_cases e : s = i
        · rw [e]; exact z
        · exact hs s (by omega)
      · by_cases c : sumT (kd j) (F 15) (i + 1) < F j
        · refine Or.inl ⟨c, ?_⟩
          rw [show F j - sumT (kd j) (F 15) i = (F j - sumT (kd j) (F 15) (i + 1)) + takeN (kd j) (F 15 + i) by omega, ← nI_add]
          generalize nI (F j - sumT (kd j) (F 15) (i + 1)) = u
          generalize nI (takeN (kd j) (F 15 + i)) = v
          rw [Int32.sub_eq_add_neg, Int32.add_assoc, ← Int32.sub_eq_add_neg, Int32.sub_self, Int32.add_zero]
        · refine Or.inr ⟨by omega, ?_⟩
          generalize hu : F j - sumT (kd j) (F 15) i = u
          generalize hv : takeN (kd j) (F 15 + i) = v at ht hm
          have hu1 : u ≤ v := by omega
          have hu2 : 0 < u := by omega
          rcases (show (u = 1 ∧ v = 1) ∨ (u = 1 ∧ v = 2) ∨ (u = 2 ∧ v = 2) by omega) with ⟨rfl, rfl⟩ | ⟨rfl, rfl⟩ | ⟨rfl, rfl⟩ <;> decide
    · exact rg_X1_woodLasts_8 ha ⟨fun _ => hK i (by omega) (isLast_mk z hs), fun c => absurd y c⟩
theorem c_X1_woodLasts {j : Nat} (hj : j < n) (ha : a ∈ fireL) (h66 : a ≠ 66) (he : iE I n w kd nd wd) (hf : FR I a n F) (hw9 : F j ≤ 9) (h15 : F 15 ≤ 900) (hK : ∀ t, t ≤ 36 → isLast (kd j) (F 15) (F j) t → K (nI t) I X) : CI g (d + 3) iX1_woodLasts [rf g a, .int (nI j)] I X K := by
  refine en_X1_woodLasts ha (c_X1_woodOf hj ha h66 he hf ?_)
  refine lp_X1_woodLasts hj ha h66 he hf hw9 h15 hK 36 0 rfl (fun s hs => absurd hs (Nat.not_lt_zero s)) _ ?_
  by_cases e : F j = 0
  · exact Or.inr ⟨by omega, by rw [e]; decide⟩
  · exact Or.inl ⟨show 0 < F j by omega, rfl⟩
def burnT (n : Nat) (kd F : Nat → Nat) (j t : Nat) : Prop := ∀ s, PP n kd F s (10 + j) = 1 ↔ s < t
theorem c_X1_burnsOn {j : Nat} (hj : j < n) (ha : a ∈ fireL) (h66 : a ≠ 66) (he : iE I n w kd nd wd) (hf : FR I a n F) (hw : WF n F m) (hm : m ≤ 900) (hK : ∀ t, t ≤ 36 → burnT n kd F j t → K (nI t) I X) : CI g (d + 4) iX1_burnsOn [rf g a, .int (nI j)] I X K := by
  have hn := he.1.2.2
  obtain ⟨u1, u2, u3, u4⟩ := hw.1 j hj
  have h15 := hw.2.1
  refine en_X1_burnsOn ha (c_X1_burns (by omega) ha h66 he hf (fun b => t_one ?_) (fun b => t_zero ?_))
  · refine c_X1_woodLasts hj ha h66 he hf u1 (by omega) (fun t ht hl => hK t ht (fun s => ?_))
    rw [(PP_house hn hj u4 s).1]
    exact ⟨fun z => (hl s).mp z.2, fun z => ⟨b.2, (hl s).mpr z⟩⟩
  · refine hK 0 (by omega) (fun s => ?_)
    rw [(PP_house hn hj u4 s).1]
    exact ⟨fun z => absurd ⟨hj, z.1⟩ b, fun z => absurd z (Nat.not_lt_zero s)⟩
theorem lp_X11_outOf {b T : Nat} (hm : m + 40 ≤ 900) (hT36 : T ≤ 36) (he0 : iE I n w kd nd wd) (hw : WF n F m) (hT : ∀ s, bset (PP n kd F s) n &&& b = 0 ↔ T ≤ s) (hK : ∀ I', SMf 1 I I' → K (nI T) I' X) : ∀ (q s : Nat) (I' : IT), s + q = T → SMf 1 I I' → FM I' 1 (PP n kd F s) → SR g (d + 4) iX11_outOf 2 [(0, rf g 129), (1, .int (nI b)), (2, .int (nI s))] I' X (qI K) := by
  have hn := he0.1.2.2
  intro q
  induction q with
  | zero =>
    intro s I' hs hS hF
    obtain rfl : s = T := by omega
    have he := he0.frame hS
    have hw' := WF.PP (kd := kd) hw hn s (by omega)
    refine rg_X11_outOf_2 (c_X11_burning (f := 1) (by decide) he hF hw' ?_)
    rw [i_and, (hT s).mpr (Nat.le_refl s)]
    exact ⟨fun _ => hK I' hS, fun c => absurd rfl c⟩
  | succ q ih =>
    intro s I' hs hS hF
    have he := he0.frame hS
    have hw' := WF.PP (kd := kd) hw hn s (by omega)
    refine rg_X11_outOf_2 (c_X11_burning (f := 1) (by decide) he hF hw' ?_)
    have hb := bset_lt (PP n kd F s) n
    have h32 : (2 : Nat) ^ n ≤ 2 ^ 5 := Nat.pow_le_pow_right (by decide) hn
    have hle : bset (PP n kd F s) n &&& b ≤ bset (PP n kd F s) n := Nat.and_le_left
    rw [i_and, show nI (bset (PP n kd F s) n &&& b) = 0 ↔ bset (PP n kd F s) n &&& b = 0 from nI_eqL 0 (by omega) (by decide), hT s]
    refine ⟨fun c => by omega, fun _ => c_X11_passes (f := 1) (by decide) he hF hw' (by omega) (fun I2 h2 hF2 x6 e6 => ?_)⟩
    subst e6
    rw [nI_1]
    exact ih (s + 1) I2 (by omega) (hS.trans h2) hF2
theorem c_X11_outOf {b T : Nat} (hm : m + 40 ≤ 900) (hT36 : T ≤ 36) (he0 : iE I n w kd nd wd) (hw : WF n F m) (hF : FM I 1 F) (hT : ∀ s, bset (PP n kd F s) n &&& b = 0 ↔ T ≤ s) (hK : ∀ I', SMf 1 I I' → K (nI T) I' X) : CI g (d + 4) iX11_outOf [rf g 129, .int (nI b)] I X K :=
  en_X11_outOf (lp_X11_outOf hm hT36 he0 hw hT hK T 0 I (by omega) SMf.rf hF)
theorem and_one {G : Nat → Nat} {j : Nat} (hj : j < n) : bset G n &&& 2 ^ j = 0 ↔ ¬ G (10 + j) = 1 := by
  constructor
  · intro h q
    have : (bset G n &&& 2 ^ j).testBit j = true := by
      rw [Nat.testBit_and, bset_tb, Nat.testBit_two_pow]
      simp [hj, q]
    rw [h] at this
    simp at this
  · intro q
    apply Nat.eq_of_testBit_eq
    intro k
    rw [Nat.testBit_and, bset_tb, Nat.testBit_two_pow, Nat.zero_testBit]
    by_cases e : j = k
    · subst e; simp [q]
    · simp [e]
theorem and_all {G : Nat → Nat} : bset G n &&& (2 ^ n - 1) = 0 ↔ ∀ j, j < n → ¬ G (10 + j) = 1 := by
  rw [Nat.and_two_pow_sub_one_eq_mod, Nat.mod_eq_of_lt (bset_lt G n)]
  constructor
  · intro h j hj q
    have : (bset G n).testBit j = true := by
      rw [bset_tb]; simp [hj, q]
    rw [h] at this
    simp at this
  · intro q
    apply Nat.eq_of_testBit_eq
    intro k
    rw [bset_tb, Nat.zero_testBit]
    by_cases e : k < n
    · simp [q k e]
    · simp [e]
theorem inv_lanes {I' : IT} (h : Inv I X) (hs : ∀ b k, ¬ (b = 142 ∧ 18 ≤ k) → I' b k = I b k) : Inv I' X :=
  ⟨h.1.same (fun b k hb => hs b k (by omega)), h.2.1.same (fun b k hb => hs b k (by omega)), h.2.2.1, h.2.2.2.1.same (fun b k hb => hs b k (by omega)), h.2.2.2.2.1.same (fun b k hb => hs b k (by omega)), h.2.2.2.2.2.same (fun b k hb => hs b k (by omega))⟩
theorem SMf.lane {t : Nat} {I' : IT} (ht : 1 ≤ t) (hs : SMf t I I') : ∀ b k, ¬ (b = 142 ∧ 18 ≤ k) → I' b k = I b k := fun b k hb => hs b k (by omega)
theorem op_lasts {v : Int32} (h : Inv I X) : PairI g (d + 5) iX10_lasts iX11_lasts [.int v] I X := by
  obtain ⟨n, w, kd, nd, wd, D, dd, S, hE, hV, hK⟩ := h.2.2.2.2.2
  have hn := hE.1.2.2
  obtain ⟨v1, v2, v3, v4, v5, v6, v7⟩ := id hV
  have hD := v1.1
  have hw := v1.2.2.1 D (Nat.le_refl D)
  refine en_X10_lasts (c_X3_has hE (fun q => t_one' ?_) (fun q => t_zero' (en_X11_lasts (c_X11_isHouse hE (fun z => absurd z q) (fun _ => t_zero' ⟨rfl, h⟩)))))
  obtain ⟨j, hj, rfl⟩ := vp_in_of q (by omega)
  refine c_X1_burnsOn (a := 33) hj (by decide) (by decide) hE v2.2.2.2 hw (by omega) (fun t ht hb => ?_)
  refine en_X11_lasts (c_X11_isHouse hE (fun _ => t_one' (c_X11_copyTo (s := 0) (t := 1) (by decide) (by decide) (by decide) (FM0.mpr v6) (fun I1 h1 hF1 => ?_))) (fun z => absurd q z))
  rw [sh_one _ (by omega)]
  refine c_X11_outOf (T := t) (m := D) (by omega) ht (hE.frame h1) hw hF1 (fun s => ?_) (fun I2 h2 => ⟨rfl, inv_lanes h ((h1.trans h2).lane (by decide))⟩)
  rw [and_one hj, hb s]
  omega
end T59
