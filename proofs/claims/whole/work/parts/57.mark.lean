/-! ===== mark ===== -/
def isN (c x : Nat) : Prop := c = x ∨ (c = 4 ∧ x = 1) ∨ (c = 5 ∧ x = 2)
def wL (F : Nat → Nat) (j : Nat) : Nat := if 0 < j ∧ 0 < F (5 + (j - 1)) then 1 else 0
def wR (n : Nat) (F : Nat → Nat) (j : Nat) : Nat := if j + 1 < n ∧ 0 < F (5 + (j + 1)) then 1 else 0
section T57
variable {g : OG} {d : Nat} {I : IT} {X : XT} {K : Int32 → IT → XT → Prop} {KV : IT → XT → Prop}
variable {n w : Nat} {kd nd wd : Nat → Nat} {F : Nat → Nat} {m f a D : Nat} {dd : Nat → Nat} {S : Nat → Nat → Nat}
theorem c_X2_isOf {c x : Nat} (hc : c ≤ 5) (hx : x ≤ 5) (hx1 : 1 ≤ x) (hT : isN c x → K 1 I X) (hF : ¬ isN c x → K 0 I X) : CI g (d + 1) iX2_isOf [.int (nI c), .int (nI x)] I X K := by
  have e1 : nI c = nI x ↔ c = x := nI_eq (by omega) (by omega)
  have e2 : nI x = 0 ↔ x = 0 := nI_eqL 0 (by omega) (by decide)
  have e3 : nI c = 4 ↔ c = 4 := nI_eqL 4 (by omega) (by decide)
  have e4 : nI c = 5 ↔ c = 5 := nI_eqL 5 (by omega) (by decide)
  have e5 : nI x = 2 ↔ x = 2 := nI_eqL 2 (by omega) (by decide)
  have e6 : nI x = 1 ↔ x = 1 := nI_eqL 1 (by omega) (by decide)
  refine en_X2_isOf ?_
  rw [e1, e2, e3, e4, e5, e6]
  unfold isN at hT hF
  refine ⟨fun q => hT (by omega), fun q => ⟨fun q2 => by omega, fun q2 => ⟨fun q3 => ⟨fun q4 => hF (by omega), fun q4 => ⟨fun q5 => hF (by omega), fun q5 => hT (by omega)⟩⟩, fun q3 => ⟨fun q4 => hT (by omega), fun q4 => ⟨fun q5 => hF (by omega), fun q5 => ⟨fun q6 => hF (by omega), fun q6 => hT (by omega)⟩⟩⟩⟩⟩⟩
theorem c_X1_wetOfG {x : Int32} (ha : a ∈ fireL) (h66 : a ≠ 66) (he : iE I n w kd nd wd) (hf : FR I a n F) (hT : ∀ j, j < n → x = nI j → K (nI (F (5 + j))) I X) (hF : ¬ vp_in x n → K 0 I X) : CI g (d + 2) iX1_wetOf [rf g a, .int x] I X K := by
  have hn := he.1.2.2
  refine en_X1_wetOf ha ?_
  rw [lane24 h66]
  refine c_X3_has he (fun q => t_one ?_) (fun q => t_zero (hF q))
  obtain ⟨j, hj, rfl⟩ := vp_in_of q (by omega)
  refine ⟨vp_in_nI (by omega) (by decide), ?_⟩
  rw [nI_clamp (by omega), (hf.1 j hj).2]
  exact hT j hj rfl
theorem not_in_m1 : ¬ vp_in (nI 0 - 1) n := fun q => q (Or.inl (by decide))
theorem c_X1_wetBeside {j : Nat} (hj : j < n) (ha : a ∈ fireL) (h66 : a ≠ 66) (he : iE I n w kd nd wd) (hf : FR I a n F) (hw : WF n F m) (hK : K (nI (wL F j + wR n F j)) I X) : CI g (d + 3) iX1_wetBeside [rf g a, .int (nI j)] I X K := by
  have hn := he.1.2.2
  have side : ∀ {K' : Int32 → IT → XT → Prop}, (K' (nI (F (5 + (j + 1)))) I X ∧ j + 1 < n ∨ K' 0 I X ∧ ¬ j + 1 < n) → CI g (d + 2) iX1_wetOf [rf g a, .int (nI j + 1)] I X K' := by
    intro K' hh
    rw [nI_1]
    refine c_X1_wetOfG ha h66 he hf (fun k hk e => ?_) (fun q => ?_)
    · have := (nI_eq (by omega) (by omega)).mp e
      subst this
      rcases hh with ⟨z, _⟩ | ⟨_, z⟩
      · exact z
      · exact absurd hk z
    · rcases hh with ⟨_, z⟩ | ⟨z, _⟩
      · exact absurd (vp_in_nI z (by omega)) q
      · exact z
  have right : ∀ (s : Nat), wL F j = s → ∀ {K' : Int32 → IT → XT → Prop}, (∀ r, (r ≤ 0 → K (nI s + 0) I X) ∧ (¬ r ≤ 0 → K (nI s + 1) I X) → K' r I X) → CI g (d + 2) iX1_wetOf [rf g a, .int (nI j + 1)] I X K' := by
    intro s hs K' hh
    apply side
    by_cases q : j + 1 < n
    · refine Or.inl ⟨hh _ ?_, q⟩
      have hwet := (hw.1 (j + 1) q).2.1
      rw [nle0 (by omega), show (0 : Int32) = nI 0 from rfl, nI_add, nI_1]
      refine ⟨fun z => ?_, fun z => ?_⟩
      · have : wR n F j = 0 := if_neg (by omega)
        rw [hs, this] at hK; exact hK
      · have : wR n F j = 1 := if_pos ⟨q, by omega⟩
        rw [hs, this] at hK; exact hK
    · refine Or.inr ⟨hh _ ⟨fun _ => ?_, fun z => absurd (Int32.le_refl 0) z⟩, q⟩
      have : wR n F j = 0 := if_neg (by omega)
      rw [hs, this] at hK
      rw [show (0 : Int32) = nI 0 from rfl, nI_add]; exact hK
  refine en_X1_wetBeside ha ?_
  cases j with
  | zero =>
    refine c_X1_wetOfG ha h66 he hf (fun k hk e => absurd (vp_in_nI hk (by omega)) (e ▸ not_in_m1)) (fun _ => ⟨fun _ => ?_, fun z => absurd (Int32.le_refl 0) z⟩)
    exact right 0 (if_neg (by omega)) (fun r hr => hr)
  | succ j =>
    rw [nI_pred]
    refine c_X1_wetOfG ha h66 he hf (fun k hk e => ?_) (fun q => absurd (vp_in_nI (by omega) (by omega)) q)
    have := (nI_eq (by omega) (by omega)).mp e
    subst this
    have hwet := (hw.1 j hk).2.1
    rw [nle0 (by omega)]
    refine ⟨fun z => right 0 (if_neg (by rw [show j + 1 - 1 = j by omega]; omega)) (fun r hr => hr), fun z => right 1 (if_pos ⟨by omega, by rw [show j + 1 - 1 = j by omega]; omega⟩) (fun r hr => hr)⟩
theorem st_wb {j s : Nat} {y : Int32} (he : iE I n w kd nd wd) (hF0 : FM I 0 F) (hw : WF n F m) (hle : ¬ nI j + 1 < y)
    (hT : ∀ k, k < n → y = nI k → 0 < F (5 + k) → SR g (d + 3) iX11_wetBeside 6 [(0, rf g 129), (1, .int (nI j)), (2, .int (nI (s + 1))), (3, .int (y + 2))] I X (qI K))
    (hF : (∀ k, k < n → y = nI k → F (5 + k) = 0) → SR g (d + 3) iX11_wetBeside 6 [(0, rf g 129), (1, .int (nI j)), (2, .int (nI s)), (3, .int (y + 2))] I X (qI K)) :
    SR g (d + 3) iX11_wetBeside 6 [(0, rf g 129), (1, .int (nI j)), (2, .int (nI s)), (3, .int y)] I X (qI K) := by
  have hn := he.1.2.2
  have e0 : nI s + 0 = nI s := nI_add s 0
  refine rg_X11_wetBeside_6 ⟨fun c => absurd c hle, fun _ => c_X11_isHouse he (fun q => t_one ?_) (fun q => t_zero (fun x4 e4 x5 e5 => ?_))⟩
  · obtain ⟨k, hk, rfl⟩ := vp_in_of q (by omega)
    have hwet := (hw.1 k hk).2.1
    rw [show (5 : Int32) + nI k = nI (5 + k) from nI_add 5 k, nI_clamp (by omega), FM0.mp hF0 (5 + k) (by omega), nle0 (by omega)]
    refine ⟨vp_in_nI (by omega) (by decide), fun z x7 e7 x8 e8 => ?_, fun z x9 e9 x10 e10 => ?_⟩
    · subst e7; subst e8
      rw [e0]
      exact hF (fun k' hk' e => by rw [← (nI_eq (a := k) (b := k') (by omega) (by omega)).mp e]; exact z)
    · subst e9; subst e10
      rw [nI_1]
      exact hT k hk rfl (by omega)
  · subst e4; subst e5
    rw [e0]
    exact hF (fun k hk e => absurd (e ▸ vp_in_nI hk (by omega)) q)
theorem c_X11_wetBeside {j : Nat} (hj : j < n) (he : iE I n w kd nd wd) (hF0 : FM I 0 F) (hw : WF n F m) (hK : K (nI (wL F j + wR n F j)) I X) : CI g (d + 3) iX11_wetBeside [rf g 129, .int (nI j)] I X K := by
  have hn := he.1.2.2
  refine en_X11_wetBeside (fun x1 e1 => ?_)
  subst e1
  have ey : nI j - 1 + 2 = nI (j + 1) := by
    rw [Int32.sub_eq_add_neg, Int32.add_assoc]
    exact nI_1 j
  have e2 : nI (j + 1) + 2 = nI (j + 3) := nI_add (j + 1) 2
  have fin : ∀ t, wL F j + wR n F j = t → SR g (d + 3) iX11_wetBeside 6 [(0, rf g 129), (1, .int (nI j)), (2, .int (nI t)), (3, .int (nI (j + 3)))] I X (qI K) := by
    intro t ht
    refine rg_X11_wetBeside_6 ?_
    rw [nI_1]
    exact ⟨fun _ => ht ▸ hK, fun c => absurd (Int32.not_le.mp (nI_ge (a := j + 1) (b := j + 3) (by omega) (by omega))) c⟩
  have right : ∀ s, wL F j = s → SR g (d + 3) iX11_wetBeside 6 [(0, rf g 129), (1, .int (nI j)), (2, .int (nI s)), (3, .int (nI (j + 1)))] I X (qI K) := by
    intro s hs
    refine st_wb he hF0 hw (by rw [nI_1]; exact fun z => absurd z Int32.lt_irrefl) (fun k hk e hp => ?_) (fun hz => ?_)
    · rw [e2]
      have := (nI_eq (by omega) (by omega)).mp e
      subst this
      exact fin _ (by rw [hs, show wR n F j = 1 from if_pos ⟨hk, hp⟩])
    · rw [e2]
      have hr : wR n F j = 0 := if_neg (fun z => by have := hz (j + 1) z.1 rfl; omega)
      exact fin _ (by rw [hs, hr]; omega)
  cases j with
  | zero =>
    refine st_wb he hF0 hw (by decide) (fun k hk e hp => absurd (vp_in_nI hk (by omega)) (e ▸ not_in_m1)) (fun hz => ?_)
    rw [ey]
    exact right 0 (if_neg (by omega))
  | succ j =>
    refine st_wb he hF0 hw (fun c => ?_) (fun k hk e hp => ?_) (fun hz => ?_)
    · rw [nI_pred, nI_1] at c
      exact absurd (Int32.not_lt.mpr (Int32.le_of_lt (Int32.not_le.mp (nI_ge (a := j) (b := j + 1 + 1) (by omega) (by omega))))) (fun z => z c)
    · rw [ey]
      rw [nI_pred] at e
      have := (nI_eq (by omega) (by omega)).mp e
      subst this
      exact right 1 (if_pos ⟨by omega, by rw [show j + 1 - 1 = j by omega]; exact hp⟩)
    · rw [ey]
      refine right 0 (if_neg (fun z => ?_))
      have := hz j (by omega) (nI_pred j)
      rw [show j + 1 - 1 = j by omega] at z
      omega
/-- the answer where the kind fits -/
def markP (n : Nat) (kd : Nat → Nat) (F : Nat → Nat) (j x : Nat) : Int32 := if x = 1 then nI (sumT (kd j) (F 15) 8) else if x = 2 then nI (3 - damp (kd j)) else if x = 3 then (nI (F j) + 1) / 2 else if x = 4 then (4 - (nI (F 15) - nI (F 15) / 4 * 4)) - (4 - (nI (F 15) - nI (F 15) / 4 * 4)) / 4 * 4 else nI (wL F j + wR n F j)
theorem c_X10_markOf {j x : Nat} (hj : j < n) (hx : x ≤ 5) (he : iE I n w kd nd wd) (hf : FR I 33 n F) (hw : WF n F m) (hm : m ≤ 900) (hK : K (markP n kd F j x) I X) : CI g (d + 4) iX10_markOf [rf g 1, .int (nI j), .int (nI x)] I X K := by
  have e1 : nI x = 1 ↔ x = 1 := nI_eqL 1 (by omega) (by decide)
  have e2 : nI x = 2 ↔ x = 2 := nI_eqL 2 (by omega) (by decide)
  have e3 : nI x = 3 ↔ x = 3 := nI_eqL 3 (by omega) (by decide)
  have e4 : nI x = 4 ↔ x = 4 := nI_eqL 4 (by omega) (by decide)
  have h15 := hw.2.1
  refine en_X10_markOf ?_
  rw [e1, e2, e3, e4, hf.2.2.1]
  unfold markP at hK
  refine ⟨fun q => ?_, fun q => ⟨fun q2 => ?_, fun q2 => ⟨fun q3 => ?_, fun q3 => ⟨fun q4 => ?_, fun q4 => ?_⟩⟩⟩⟩
  · rw [if_pos q] at hK
    exact c_X1_woodFor (a := 33) (q := 8) hj (by decide) (by decide) (by decide) he hf (by omega) hK
  · rw [if_neg q, if_pos q2] at hK
    refine c_X3_kindOf hj he (c_X2_dampest (he.2.2.1 j hj).2.2 ?_)
    have e : (3 : Int32) - nI (damp (kd j)) = nI (3 - damp (kd j)) := by
      unfold damp
      split
      · decide
      · split <;> decide
    rw [e]
    exact hK
  · rw [if_neg q, if_neg q2, if_pos q3] at hK
    exact c_X1_woodOf (a := 33) hj (by decide) (by decide) he hf hK
  · rw [if_neg q, if_neg q2, if_neg q3, if_pos q4] at hK
    exact hK
  · rw [if_neg q, if_neg q2, if_neg q3, if_neg q4] at hK
    exact c_X1_wetBeside (a := 33) hj (by decide) (by decide) he hf hw hK
theorem mark_tree {j x : Nat} (hj : j < n) (hi : isN (kd j) x) (he : iE I n w kd nd wd) (hF0 : FM I 0 F) (hw : WF n F m) (hm : m ≤ 900) (hK : K (markP n kd F j x) I X) :
    (x = 1 → CI g (d + 3) iX11_springOf [rf g 129, .int (nI j), .int 8] I X (fun r10 I11 X12 => K r10 I11 X12)) ∧
    (¬ x = 1 → (x = 2 → (¬ kd j = 5 → K 2 I X) ∧ (kd j = 5 → K 0 I X)) ∧
    (¬ x = 2 → (x = 3 → vp_in (nI j) 216 ∧ K ((nI (F j) + 1) / 2) I X) ∧
    (¬ x = 3 → (x = 4 → vp_in 15 216 ∧ K ((4 - (nI (F 15) - nI (F 15) / 4 * 4)) - (4 - (nI (F 15) - nI (F 15) / 4 * 4)) / 4 * 4) I X) ∧
    (¬ x = 4 → CI g (d + 3) iX11_wetBeside [rf g 129, .int (nI j)] I X (fun r18 I19 X20 => K r18 I19 X20))))) := by
  have hn := he.1.2.2
  have h15 := hw.2.1
  unfold markP at hK
  refine ⟨fun q => ?_, fun q => ⟨fun q2 => ?_, fun q2 => ⟨fun q3 => ?_, fun q3 => ⟨fun q4 => ?_, fun q4 => ?_⟩⟩⟩⟩
  · rw [if_pos q] at hK
    exact c_X11_springOf (q := 8) hj (by decide) he hF0 (by omega) hK
  · rw [if_neg q, if_pos q2] at hK
    unfold isN at hi
    unfold damp at hK
    refine ⟨fun z => ?_, fun z => ?_⟩
    · rw [if_neg z, if_pos (by omega)] at hK
      exact hK
    · rw [if_pos z] at hK
      exact hK
  · rw [if_neg q, if_neg q2, if_pos q3] at hK
    exact ⟨vp_in_nI (by omega) (by decide), hK⟩
  · rw [if_neg q, if_neg q2, if_neg q3, if_pos q4] at hK
    exact ⟨v15, hK⟩
  · rw [if_neg q, if_neg q2, if_neg q3, if_neg q4] at hK
    exact c_X11_wetBeside hj he hF0 hw hK
theorem c_X11_mark {j x : Nat} (hj : j < n) (hx : x ≤ 5) (hx1 : 1 ≤ x) (he : iE I n w kd nd wd) (hF0 : FM I 0 F) (hw : WF n F m) (hm : m ≤ 900) (hT : isN (kd j) x → K (markP n kd F j x) I X) (hF : ¬ isN (kd j) x → K (-3) (fndM I 3) X) : CI g (d + 4) iX11_mark [rf g 129, .int (nI j), .int (nI x)] I X K := by
  have hn := he.1.2.2
  have hk5 := (he.2.2.1 j hj).2.2
  have e1 : nI x = 1 ↔ x = 1 := nI_eqL 1 (by omega) (by decide)
  have e2 : nI x = 2 ↔ x = 2 := nI_eqL 2 (by omega) (by decide)
  have e3 : nI x = 3 ↔ x = 3 := nI_eqL 3 (by omega) (by decide)
  have e4 : nI x = 4 ↔ x = 4 := nI_eqL 4 (by omega) (by decide)
  have k0 : nI (kd j) = nI x ↔ kd j = x := nI_eq (by omega) (by omega)
  have k5 : nI (kd j) = 5 ↔ kd j = 5 := nI_eqL 5 (by omega) (by decide)
  have k4 : nI (kd j) = 4 ↔ kd j = 4 := nI_eqL 4 (by omega) (by decide)
  have hin : (1 : Int32) ≤ nI x ∧ nI x ≤ 5 := by
    constructor
    · exact Int32.not_lt.mp (fun z => absurd (Int32.le_of_lt z) (fun y => by
        by_cases e : x = 1
        · subst e; exact absurd z (by decide)
        · exact nI_ge (a := 1) (b := x) (by omega) (by omega) y))
    · by_cases e : x = 5
      · subst e; decide
      · exact Int32.le_of_lt (Int32.not_le.mp (nI_ge (a := x) (b := 5) (by omega) (by omega)))
  have vt := fun hi => mark_tree (g := g) (d := d) (X := X) (K := K) hj hi he hF0 hw hm (hT hi)
  have mt : ¬ isN (kd j) x → CI g (d + 3) iX11_meets [rf g 129, .int 3] I X (fun r21 I22 X23 => K r21 I22 X23) := fun z => c_X11_meets 3 rfl (by decide) (hF z)
  unfold isN at vt mt
  refine en_X11_mark (c_X11_isHouse he (fun _ => t_one (c_X11_in (fun _ => t_one' ⟨vp_in_nI (by omega) (by decide), fun x8 e8 => ?_⟩) (fun z => absurd hin z))) (fun z => absurd (vp_in_nI hj (by omega)) z))
  rw [nI_clamp (by omega), (he.2.2.1 j hj).2.1] at e8
  subst e8
  rw [e1, e2, e3, e4, k0, k5, k4, nI_clamp (by omega), t15, FM0.mp hF0 15 (by omega), FM0.mp hF0 j (by omega)]
  exact ⟨fun q => vt (by omega), fun q => ⟨fun q1 => ⟨fun q2 => mt (by omega), fun q2 => ⟨fun q3 => vt (by omega), fun q3 => mt (by omega)⟩⟩, fun q1 => ⟨fun q2 => vt (by omega), fun q2 => ⟨fun q3 => mt (by omega), fun q3 => ⟨fun q4 => by omega, fun q4 => by omega⟩⟩⟩⟩⟩
theorem op_mark {u y : Int32} (h : Inv I X) : PairI g (d + 5) iX10_mark iX11_mark [.int u, .int y] I X := by
  obtain ⟨n, w, kd, nd, wd, D, dd, S, hE, hV, hK⟩ := h.2.2.2.2.2
  have hn := hE.1.2.2
  obtain ⟨v1, v2, v3, v4, v5, v6, v7⟩ := id hV
  have hD := v1.1
  have hw := v1.2.2.1 D (Nat.le_refl D)
  refine en_X10_mark (c_X3_has hE (fun q => t_one ?_) (fun q => t_zero (en_X11_mark (c_X11_isHouse hE (fun z => absurd z q) (fun _ => t_zero ⟨rfl, h⟩)))))
  obtain ⟨j, hj, rfl⟩ := vp_in_of q (by omega)
  by_cases hv : (1 : Int32) ≤ y ∧ y ≤ 5
  · obtain ⟨x, hx5, rfl⟩ := vp_in_of ((inB (n := 5) (by decide)).mp ⟨Int32.le_trans (by decide) hv.1, hv.2⟩) (by decide)
    have hx1 : 1 ≤ x := by
      by_cases e : x = 0
      · subst e; exact absurd hv.1 (by decide)
      · omega
    refine ⟨fun c => absurd hv.1 (Int32.not_le.mpr c), fun _ => ⟨fun _ => ?_, fun c => absurd hv.2 c⟩⟩
    refine c_X3_kindOf hj hE (c_X2_isOf (hE.2.2.1 j hj).2.2 (by omega) hx1 (fun hi => t_one' ?_) (fun hi => t_zero' ?_))
    · refine c_X10_markOf hj (by omega) hE v2.2.2.2 hw (by omega) ?_
      exact c_X11_mark hj (by omega) hx1 hE (FM0.mpr v6) hw (by omega) (fun _ => ⟨rfl, h⟩) (fun z => absurd hi z)
    · refine c_X10_found 3 rfl (by decide) ?_
      have hE1 : iE (fndC I 3) n w kd nd wd := hE.same (fun b k hb => by unfold fndC; rw [set2_at, if_neg (by omega), set2_at, if_neg (by omega)])
      have hF1 : FM (fndC I 3) 0 (S D) := FM0.mpr (fun k hk => by unfold fndC; rw [set2_at, if_neg (by omega), set2_at, if_neg (by omega)]; exact v6 k hk)
      exact c_X11_mark hj (by omega) hx1 hE1 hF1 hw (by omega) (fun z => absurd z hi) (fun _ => ⟨rfl, inv_found (by decide) h⟩)
  · have hm : CI g (d + 5) iX11_mark [rf g 129, .int (nI j), .int y] I X (fun r' I2 X2 => r' = -1 ∧ Inv I2 X2) :=
      en_X11_mark (c_X11_isHouse hE (fun _ => t_one (c_X11_in (fun z => absurd z hv) (fun _ => t_zero' ⟨rfl, h⟩))) (fun z => absurd q z))
    refine ⟨fun _ => hm, fun c => ⟨fun c2 => ?_, fun _ => hm⟩⟩
    exact absurd ⟨Int32.not_lt.mp c, c2⟩ hv
end T57
