/-! ===== dark, worst, where ===== -/
def afterN (n : Nat) (kd F : Nat → Nat) (t : Nat) : Nat := pop (bset (PP n kd F t) n)
def worS (n : Nat) (kd F : Nat → Nat) : Nat → Nat × Nat
  | 0 => (0, 6)
  | i + 1 => if afterN n kd F (i + 1) < (worS n kd F i).2 then (i + 1, afterN n kd F (i + 1)) else worS n kd F i
def lastF (c hr w : Nat) : Nat := cntB (fun s => decide (sumT c hr s < w)) 40
def wheS (kd F : Nat → Nat) : Nat → Int32 × Nat
  | 0 => (-9, 0)
  | i + 1 => if catchB kd F i = 1 ∧ (wheS kd F i).2 < lastF (kd i) (F 15) (F i) then (nI i, lastF (kd i) (F 15) (F i)) else wheS kd F i
theorem cnt_lt (t : Nat) : ∀ k, cntB (fun s => decide (s < t)) k = min k t
  | 0 => by show 0 = _; omega
  | k + 1 => by
    have ih := cnt_lt t k
    by_cases e : k < t
    · rw [cntB_1 (decide_eq_true e), ih]; omega
    · rw [cntB_0 (fun z => e (of_decide_eq_true z)), ih]; omega
theorem lastF_eq {c hr w t : Nat} (h : isLast c hr w t) (ht : t ≤ 36) : lastF c hr w = t := by
  unfold lastF
  rw [show (fun s => decide (sumT c hr s < w)) = fun s => decide (s < t) from funext (fun s => decide_eq_decide.mpr (h s)), cnt_lt]
  omega
theorem cnt_cong {p q : Nat → Bool} : ∀ {k : Nat}, (∀ s, s < k → p s = q s) → cntB p k = cntB q k
  | 0, _ => rfl
  | k + 1, h => by
    show cntB p k + (if p k then 1 else 0) = cntB q k + (if q k then 1 else 0)
    rw [cnt_cong (fun s hs => h s (by omega)), h k (by omega)]
section T60
variable {g : OG} {d : Nat} {I : IT} {X : XT} {K : Int32 → IT → XT → Prop} {KV : IT → XT → Prop}
variable {n w : Nat} {kd nd wd : Nat → Nat} {F : Nat → Nat} {m f a D : Nat} {dd : Nat → Nat} {S : Nat → Nat → Nat}
theorem pop_bset {G : Nat → Nat} (hn : n ≤ 5) : pop (bset G n) = cntB (fun j => decide (G (10 + j) = 1)) n := by
  have hb : ∀ j, bset G n / 2 ^ j % 2 = if j < n ∧ G (10 + j) = 1 then 1 else 0 := fun j => bset_bit
  have h0 := hb 0
  have h1 := hb 1
  have h2 := hb 2
  have h3 := hb 3
  have h4 := hb 4
  rw [show bset G n / 2 ^ 0 = bset G n from Nat.div_one _] at h0
  unfold pop
  rw [h0, show bset G n / 2 % 2 = _ from h1, show bset G n / 4 % 2 = _ from h2, show bset G n / 8 % 2 = _ from h3, show bset G n / 16 % 2 = _ from h4]
  clear h0 h1 h2 h3 h4 hb
  rcases (show n = 0 ∨ n = 1 ∨ n = 2 ∨ n = 3 ∨ n = 4 ∨ n = 5 by omega) with rfl | rfl | rfl | rfl | rfl | rfl <;> simp [cntB]
-- dark
def darkT (n : Nat) (kd F : Nat → Nat) (i T : Nat) : Prop := ∀ s, (∀ j, j < i → ¬ PP n kd F s (10 + j) = 1) ↔ T ≤ s
theorem lp_X10_dark (he : iE I n w kd nd wd) (hf : FR I 33 n F) (hw : WF n F m) (hm : m ≤ 900) (hK : ∀ T, T ≤ 36 → darkT n kd F n T → K (nI T) I X) : ∀ (q i T : Nat), i + q = n → T ≤ 36 → darkT n kd F i T → SR g (d + 5) iX10_dark 4 [(0, rf g 1), (1, .int (nI T)), (2, .int (nI i))] I X (qI K) := by
  have hn := he.1.2.2
  intro q
  induction q with
  | zero =>
    intro i T hi hT hd
    obtain rfl : i = n := by omega
    refine rg_X10_dark_4 ?_
    rw [he.1.1]
    exact ⟨fun _ => hK T hT hd, fun c => absurd (Int32.le_refl _) c⟩
  | succ q ih =>
    intro i T hi hT hd
    refine rg_X10_dark_4 ?_
    rw [he.1.1]
    refine ⟨fun c => absurd c (nI_ge (by omega) (by omega)), fun _ => c_X1_burnsOn (a := 33) (by omega) (by decide) (by decide) he hf hw hm (fun t ht hb x4 e4 x5 e5 => ?_)⟩
    subst e5
    rw [nI_1]
    have e : x4 = nI (max T t) := by
      rw [e4]
      by_cases c : T < t
      · rw [if_pos (nI_lt c (by omega)), Nat.max_eq_right (by omega)]
      · rw [if_neg (nI_nlt (by omega) (by omega)), Nat.max_eq_left (by omega)]
    subst e
    refine ih (i + 1) _ (by omega) (by omega) (fun s => ?_)
    have a1 := hd s
    have a2 := hb s
    constructor
    · intro z
      have b1 := a1.mp (fun j hj => z j (by omega))
      have b2 := z i (by omega)
      rw [a2] at b2
      omega
    · intro z j hj
      by_cases e : j = i
      · subst e; rw [a2]; omega
      · exact a1.mpr (by omega) j (by omega)
theorem op_dark (h : Inv I X) : PairI g (d + 5) iX10_dark iX11_dark [] I X := by
  obtain ⟨n, w, kd, nd, wd, D, dd, S, hE, hV, hK⟩ := h.2.2.2.2.2
  have hn := hE.1.2.2
  obtain ⟨v1, v2, v3, v4, v5, v6, v7⟩ := id hV
  have hD := v1.1
  have hw := v1.2.2.1 D (Nat.le_refl D)
  refine en_X10_dark (lp_X10_dark hE v2.2.2.2 hw (by omega) (fun T hT hd => ?_) n 0 0 (by omega) (by omega) (fun s => ⟨fun _ => Nat.zero_le s, fun _ j hj => absurd hj (Nat.not_lt_zero j)⟩))
  refine en_X11_dark (c_X11_copyTo (s := 0) (t := 1) (by decide) (by decide) (by decide) (FM0.mpr v6) (fun I1 h1 hF1 => ?_))
  refine c_X11_everybody (hE.frame h1) ?_
  refine c_X11_outOf (T := T) (m := D) (by omega) hT (hE.frame h1) hw hF1 (fun s => ?_) (fun I2 h2 => ⟨rfl, inv_lanes h ((h1.trans h2).lane (by decide))⟩)
  rw [and_all]
  exact hd s
-- worst
theorem lp_X1_alightAfter {t : Nat} (ht1 : t ≤ 100) (ha : a ∈ fireL) (h66 : a ≠ 66) (he : iE I n w kd nd wd) (hf : FR I a n F) (hw : WF n F m) (hm : m ≤ 900) (hK : K (nI (afterN n kd F t)) I X) : ∀ (q i : Nat), i + q = n → SR g (d + 5) iX1_alightAfter 4 [(0, rf g a), (1, .int (nI t)), (2, .int (nI (cntB (fun j => decide (PP n kd F t (10 + j) = 1)) i))), (3, .int (nI i))] I X (qI K) := by
  have hn := he.1.2.2
  intro q
  induction q with
  | zero =>
    intro i hi
    obtain rfl : i = n := by omega
    refine rg_X1_alightAfter_4 ha ?_
    rw [lane24 h66, he.1.1, ← pop_bset hn]
    exact ⟨fun _ => hK, fun c => absurd (Int32.le_refl _) c⟩
  | succ q ih =>
    intro i hi
    refine rg_X1_alightAfter_4 ha ?_
    rw [lane24 h66, he.1.1]
    refine ⟨fun c => absurd c (nI_ge (by omega) (by omega)), fun _ => c_X1_burnsOn (by omega) ha h66 he hf hw hm (fun t2 ht hb => ?_)⟩
    rw [nI_leI (by omega) (by omega)]
    have a2 := hb t
    refine ⟨fun c x4 e4 x5 e5 => ?_, fun c x4 e4 x5 e5 => ?_⟩
    · subst e4; subst e5
      rw [p0, nI_1, ← cntB_0 (p := fun j => decide (PP n kd F t (10 + j) = 1)) (i := i) (fun z => by have := a2.mp (of_decide_eq_true z); omega)]
      exact ih (i + 1) (by omega)
    · subst e4; subst e5
      rw [nI_1, nI_1, ← cntB_1 (p := fun j => decide (PP n kd F t (10 + j) = 1)) (i := i) (decide_eq_true (a2.mpr (by omega)))]
      exact ih (i + 1) (by omega)
theorem c_X1_alightAfter {t : Nat} (ht1 : t ≤ 100) (ha : a ∈ fireL) (h66 : a ≠ 66) (he : iE I n w kd nd wd) (hf : FR I a n F) (hw : WF n F m) (hm : m ≤ 900) (hK : K (nI (afterN n kd F t)) I X) : CI g (d + 5) iX1_alightAfter [rf g a, .int (nI t)] I X K :=
  en_X1_alightAfter ha (lp_X1_alightAfter ht1 ha h66 he hf hw hm hK n 0 (by omega))
theorem afterN_le (hn : n ≤ 5) (t : Nat) : afterN n kd F t ≤ 5 :=
  pop_le _ (Nat.lt_of_lt_of_le (bset_lt _ n) (Nat.pow_le_pow_right (n := 2) (by decide) hn))
theorem worS_le (hn : n ≤ 5) : ∀ i, (worS n kd F i).1 ≤ i ∧ (worS n kd F i).2 ≤ 6
  | 0 => ⟨Nat.le_refl _, Nat.le_refl _⟩
  | i + 1 => by
    have ih := worS_le hn i
    have := afterN_le (kd := kd) (F := F) hn (i + 1)
    show (if _ then _ else _ : Nat × Nat).1 ≤ _ ∧ (if _ then _ else _ : Nat × Nat).2 ≤ 6
    split
    · exact ⟨Nat.le_refl _, by show afterN n kd F (i + 1) ≤ 6; omega⟩
    · exact ⟨by omega, ih.2⟩
theorem worS_lt {i : Nat} (h : afterN n kd F (i + 1) < (worS n kd F i).2) : worS n kd F (i + 1) = (i + 1, afterN n kd F (i + 1)) := if_pos h
theorem worS_ge {i : Nat} (h : ¬ afterN n kd F (i + 1) < (worS n kd F i).2) : worS n kd F (i + 1) = worS n kd F i := if_neg h
theorem lp_X10_worst {y : Nat} (hy : y ≤ 20) (he : iE I n w kd nd wd) (hf : FR I 33 n F) (hw : WF n F m) (hm : m ≤ 900) (hK : K (nI (worS n kd F y).1) (set2 I 1 14 (nI (worS n kd F y).2)) X) : ∀ (q i : Nat), i + q = y → SR g (d + 6) iX10_worst 43 [(0, rf g 1), (1, .int (nI y)), (2, .int (nI (worS n kd F i).1)), (3, .int (nI (worS n kd F i).2)), (4, .int (nI (i + 1)))] I X (qI K) := by
  have hn := he.1.2.2
  intro q
  induction q with
  | zero =>
    intro i hi
    obtain rfl : i = y := by omega
    refine rg_X10_worst_43 ⟨fun _ I1 e1 => ?_, fun c => absurd (nI_lt (by omega) (by omega)) c⟩
    subst e1
    exact hK
  | succ q ih =>
    intro i hi
    have hl := worS_le (kd := kd) (F := F) hn i
    have ha := afterN_le (kd := kd) (F := F) hn (i + 1)
    refine rg_X10_worst_43 ⟨fun c => absurd c (nI_nlt (by omega) (by omega)), fun _ => c_X1_alightAfter (a := 33) (by omega) (by decide) (by decide) he hf hw hm ?_⟩
    rw [nI_leI (by omega) (by omega), nI_1]
    have ih' := ih (i + 1) (by omega)
    refine ⟨fun c x5 e5 => ?_, fun c x5 e5 => ?_⟩
    · subst e5
      rw [worS_ge (by omega)] at ih'
      exact ih'
    · subst e5
      rw [worS_lt (by omega)] at ih'
      exact ih'
theorem lp_X11_worst {y : Nat} (hy : y ≤ 20) (he0 : iE I n w kd nd wd) (hw : WF n F m) (hm : m + 40 ≤ 900) (hK : ∀ I', SMf 1 I I' → K (nI (worS n kd F y).1) (set2 I' 129 2 (nI (worS n kd F y).2)) X) : ∀ (q i : Nat) (I' : IT), i + q = y → SMf 1 I I' → FM I' 1 (PP n kd F i) → SR g (d + 4) iX11_worst 36 [(0, rf g 129), (1, .int (nI y)), (2, .int (nI (worS n kd F i).1)), (3, .int (nI (worS n kd F i).2)), (4, .int (nI (i + 1)))] I' X (qI K) := by
  have hn := he0.1.2.2
  intro q
  induction q with
  | zero =>
    intro i I' hi hS hF
    obtain rfl : i = y := by omega
    exact rg_X11_worst_36 ⟨fun _ => c_X11_tells (hK I' hS), fun c => absurd (nI_lt (by omega) (by omega)) c⟩
  | succ q ih =>
    intro i I' hi hS hF
    have hl := worS_le (kd := kd) (F := F) hn i
    have ha := afterN_le (kd := kd) (F := F) hn (i + 1)
    have he := he0.frame hS
    have hw1 := WF.PP (kd := kd) hw hn i (by omega)
    have hw2 := WF.PP (kd := kd) hw hn (i + 1) (by omega)
    have h32 : bset (PP n kd F (i + 1)) n < 32 := Nat.lt_of_lt_of_le (bset_lt _ n) (Nat.pow_le_pow_right (n := 2) (by decide) hn)
    refine rg_X11_worst_36 ⟨fun c => absurd c (nI_nlt (by omega) (by omega)), fun _ => c_X11_passes (f := 1) (by decide) he hF hw1 (by omega) (fun I2 h2 hF2 => ?_)⟩
    refine c_X11_burning (f := 1) (by decide) (he.frame h2) (F := PP n kd F (i + 1)) hF2 hw2 (c_X11_bits h32 ?_)
    rw [show pop (bset (PP n kd F (i + 1)) n) = afterN n kd F (i + 1) from rfl, nI_leI (by omega) (by omega), nI_1]
    have ih' := ih (i + 1) I2 (by omega) (hS.trans h2) hF2
    refine ⟨fun c => ⟨fun _ x5 e5 => ?_, fun c2 => absurd c c2⟩, fun c => ⟨fun c2 => absurd c2 c, fun _ x5 e5 => ?_⟩⟩
    · subst e5
      rw [worS_ge (by omega)] at ih'
      exact ih'
    · subst e5
      rw [worS_lt (by omega)] at ih'
      exact ih'
theorem inv_asked_lanes {I' : IT} {v : Int32} (h : Inv I X) (hs : ∀ b k, ¬ (b = 142 ∧ 18 ≤ k) → I' b k = set2 I 1 14 v b k) : Inv (set2 I' 129 2 v) X :=
  inv_lanes (inv_asked (v := v) h) (fun b k hb => by rw [set2_at, set2_at (set2 I 1 14 v), hs b k hb])
theorem op_worst {v : Int32} (h : Inv I X) : PairI g (d + 6) iX10_worst iX11_worst [.int v] I X := by
  obtain ⟨n, w, kd, nd, wd, D, dd, S, hE, hV, hK⟩ := h.2.2.2.2.2
  have hn := hE.1.2.2
  obtain ⟨v1, v2, v3, v4, v5, v6, v7⟩ := id hV
  have hD := v1.1
  have hw := v1.2.2.1 D (Nat.le_refl D)
  have e10 : nI n = 0 ↔ n = 0 := nI_eqL 0 (by omega) (by decide)
  by_cases hv : (1 : Int32) ≤ v ∧ v ≤ 20
  · obtain ⟨y, hy, rfl⟩ := vp_in_of ((inB (n := 20) (by decide)).mp ⟨Int32.le_trans (by decide) hv.1, hv.2⟩) (by decide)
    have hy1 : 1 ≤ y := by
      by_cases e : y = 0
      · subst e; exact absurd hv.1 (by decide)
      · omega
    refine en_X10_worst ⟨fun c => absurd hv.1 (Int32.not_le.mpr c), fun _ => ⟨fun _ => ?_, fun c => absurd hv.2 c⟩⟩
    refine c_X3_isEmpty hE (fun q0 => t_one ?_) (fun q0 => t_zero ?_)
    · refine en_X11_worst (c_X11_in (fun _ => t_one' ?_) (fun z => absurd hv z))
      rw [hE.1.2.1, e10]
      exact ⟨fun z => absurd q0 z, fun _ => ⟨rfl, h⟩⟩
    · refine c_X1_alightAfter (a := 33) (t := 1) (by decide) (by decide) (by decide) hE v2.2.2.2 hw (by omega) ?_
      have a1 := afterN_le (kd := kd) (F := S D) hn 1
      have e1 : worS n kd (S D) 1 = (1, afterN n kd (S D) 1) := worS_lt (Nat.lt_succ_of_le a1)
      have L := lp_X10_worst (g := g) (d := d) (X := X) (y := y) (K := fun r1 I2 X2 => CI g (d + 6) iX11_worst (rf g 129 :: [.int (nI y)]) I2 X2 (fun r' I3 X3 => r' = r1 ∧ Inv I3 X3)) (by omega) hE v2.2.2.2 hw (by omega) ?_ (y - 1) 1 (by omega)
      · rw [e1] at L
        exact L
      · have hE1 : iE (set2 I 1 14 (nI (worS n kd (S D) y).2)) n w kd nd wd := hE.same (fun b k hb => by rw [set2_at, if_neg (by omega)])
        have hF1 : FM (set2 I 1 14 (nI (worS n kd (S D) y).2)) 0 (S D) := FM0.mpr (fun k hk => by rw [set2_at, if_neg (by omega)]; exact v6 k hk)
        refine en_X11_worst (c_X11_in (fun _ => t_one' ?_) (fun z => absurd hv z))
        rw [hE1.1.2.1, e10]
        refine ⟨fun _ => c_X11_copyTo (s := 0) (t := 1) (by decide) (by decide) (by decide) hF1 (fun I1 h1 hF1 => ?_), fun z => by omega⟩
        refine lp_X11_worst (m := D) (by omega) (hE1.frame h1) hw (by omega) (fun I2 h2 => ⟨rfl, inv_asked_lanes h ((h1.trans h2).lane (by decide))⟩) y 0 I1 (by omega) SMf.rf hF1
  · have hm : CI g (d + 6) iX11_worst [rf g 129, .int v] I X (fun r' I2 X2 => r' = -1 ∧ Inv I2 X2) :=
      en_X11_worst (c_X11_in (fun z => absurd z hv) (fun _ => t_zero' ⟨rfl, h⟩))
    refine en_X10_worst ⟨fun _ => hm, fun c => ⟨fun c2 => ?_, fun _ => hm⟩⟩
    exact absurd ⟨Int32.not_lt.mp c, c2⟩ hv
end T60
