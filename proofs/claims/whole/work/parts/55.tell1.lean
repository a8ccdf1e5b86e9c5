/-! ===== house, wind, spring, fires, reach, stack ===== -/
def catchB (kd : Nat → Nat) (F : Nat → Nat) (h : Nat) : Nat := if 0 < F h ∧ F (5 + h) ≤ damp (kd h) then 1 else 0
theorem catchB_1 {kd F : Nat → Nat} {h : Nat} (c : catchN kd F h) : catchB kd F h = 1 := if_pos c
theorem catchB_0 {kd F : Nat → Nat} {h : Nat} (c : ¬ catchN kd F h) : catchB kd F h = 0 := if_neg c
def factV (kd nd : Nat → Nat) (F : Nat → Nat) (h what : Nat) : Int32 := if what = 0 then nI (kd h) else if what = 1 then nI (F h) else if what = 2 then nI (F (5 + h)) else if what = 3 then ndI (nd h) else if what = 4 then nI (F (10 + h)) else nI (catchB kd F h)
def cset (n : Nat) (kd F : Nat → Nat) : Nat := bset (fun j => catchB kd F (j - 10)) n
def sumT (c hr : Nat) : Nat → Nat
  | 0 => 0
  | i + 1 => sumT c hr i + takeN c (hr + i)
theorem sumT_le (c hr : Nat) : ∀ i, sumT c hr i ≤ 2 * i
  | 0 => Nat.le_refl 0
  | i + 1 => by
    have h := sumT_le c hr i
    have h2 := takeN_le c (hr + i)
    show sumT c hr i + takeN c (hr + i) ≤ 2 * (i + 1)
    omega
theorem t15 : (15 : Int32).toNatClampNeg = 15 := by decide
theorem v15 : vp_in 15 216 := show vp_in (nI 15) 216 from vp_in_nI (by decide) (by decide)
section T55
variable {g : OG} {d : Nat} {I : IT} {X : XT} {K : Int32 → IT → XT → Prop} {KV : IT → XT → Prop}
variable {n w : Nat} {kd nd wd : Nat → Nat} {F : Nat → Nat} {m f a D : Nat} {dd : Nat → Nat} {S : Nat → Nat → Nat}
theorem c_X1_woodOf {j : Nat} (hj : j < n) (ha : a ∈ fireL) (h66 : a ≠ 66) (he : iE I n w kd nd wd) (hf : FR I a n F) (hK : K (nI (F j)) I X) : CI g (d + 2) iX1_woodOf [rf g a, .int (nI j)] I X K := by
  have hn := he.1.2.2
  refine en_X1_woodOf ha ?_
  rw [lane24 h66]
  refine c_X3_hasJ (by omega) he (fun _ => t_one ⟨vp_in_nI (by omega) (by decide), ?_⟩) (fun q => absurd hj q)
  rw [nI_clamp (by omega), (hf.1 j hj).1]
  exact hK
theorem c_X1_wetOf {j : Nat} (hj : j < n) (ha : a ∈ fireL) (h66 : a ≠ 66) (he : iE I n w kd nd wd) (hf : FR I a n F) (hK : K (nI (F (5 + j))) I X) : CI g (d + 2) iX1_wetOf [rf g a, .int (nI j)] I X K := by
  have hn := he.1.2.2
  refine en_X1_wetOf ha ?_
  rw [lane24 h66]
  refine c_X3_hasJ (by omega) he (fun _ => t_one ⟨vp_in_nI (by omega) (by decide), ?_⟩) (fun q => absurd hj q)
  rw [nI_clamp (by omega), (hf.1 j hj).2]
  exact hK
/-- one of the six facts of a house -/
theorem c_X10_factOf {j wh : Nat} (hj : j < n) (hwh : wh < 6) (he : iE I n w kd nd wd) (hf : FR I 33 n F) (hw : WF n F m) (hK : K (factV kd nd F j wh) I X) : CI g (d + 3) iX10_factOf [rf g 1, .int (nI j), .int (nI wh)] I X K := by
  have hn := he.1.2.2
  obtain ⟨u1, u2, u3, u4⟩ := hw.1 j hj
  refine en_X10_factOf ?_
  unfold factV at hK
  rcases (show wh = 0 ∨ wh = 1 ∨ wh = 2 ∨ wh = 3 ∨ wh = 4 ∨ wh = 5 by omega) with rfl | rfl | rfl | rfl | rfl | rfl
  · exact ⟨fun _ => c_X3_kindOf hj he hK, fun q => absurd rfl q⟩
  · exact ⟨fun q => absurd q (by decide), fun _ => ⟨fun _ => c_X1_woodOf (a := 33) hj (by decide) (by decide) he hf hK, fun q => absurd rfl q⟩⟩
  · exact ⟨fun q => absurd q (by decide), fun _ => ⟨fun q => absurd q (by decide), fun _ => ⟨fun _ => c_X1_wetOf (a := 33) hj (by decide) (by decide) he hf hK, fun q => absurd rfl q⟩⟩⟩
  · exact ⟨fun q => absurd q (by decide), fun _ => ⟨fun q => absurd q (by decide), fun _ => ⟨fun q => absurd q (by decide), fun _ => ⟨fun _ => c_X3_needOf hj he hK, fun q => absurd rfl q⟩⟩⟩⟩
  · refine ⟨fun q => absurd q (by decide), fun _ => ⟨fun q => absurd q (by decide), fun _ => ⟨fun q => absurd q (by decide), fun _ => ⟨fun q => absurd q (by decide), fun _ => ⟨fun _ => ?_, fun q => absurd rfl q⟩⟩⟩⟩⟩
    refine c_X1_burns (a := 33) (by omega) (by decide) (by decide) he hf (fun q => t_one ?_) (fun q => t_zero ?_)
    · have e : F (10 + j) = 1 := q.2
      simp only [e] at hK
      exact hK
    · have e : F (10 + j) = 0 := by
        rcases (show F (10 + j) = 0 ∨ F (10 + j) = 1 by omega) with e | e
        · exact e
        · exact absurd ⟨hj, e⟩ q
      simp only [e] at hK
      exact hK
  · refine ⟨fun q => absurd q (by decide), fun _ => ⟨fun q => absurd q (by decide), fun _ => ⟨fun q => absurd q (by decide), fun _ => ⟨fun q => absurd q (by decide), fun _ => ⟨fun q => absurd q (by decide), fun _ => ?_⟩⟩⟩⟩⟩
    refine c_X1_catches (a := 33) (by omega) (by decide) (by decide) he hf hw (fun q => t_one ?_) (fun q => t_zero ?_)
    · have e := catchB_1 q.2
      simp only [e] at hK
      exact hK
    · have e := catchB_0 (fun z => q ⟨hj, z⟩)
      simp only [e] at hK
      exact hK
theorem c_X11_houseTells {j wh : Nat} (hj : j < n) (hwh : wh < 6) (he : iE I n w kd nd wd) (hF0 : FM I 0 F) (hw : WF n F m) (hK : K (factV kd nd F j wh) I X) : CI g (d + 2) iX11_houseTells [rf g 129, .int (nI j), .int (nI wh)] I X K := by
  have hn := he.1.2.2
  have hM := FM0.mp hF0
  have e5 : (5 : Int32) + nI j = nI (5 + j) := nI_add 5 j
  have e10 : (10 : Int32) + nI j = nI (10 + j) := nI_add 10 j
  refine en_X11_houseTells ?_
  rw [e5, e10, nI_clamp (n := j) (by omega), nI_clamp (n := 5 + j) (by omega), nI_clamp (n := 10 + j) (by omega), (he.2.2.1 j hj).2.1, (he.2.2.2.1 j hj).2.1, hM j (by omega), hM (5 + j) (by omega), hM (10 + j) (by omega)]
  have iv : vp_in (nI j) 5 := vp_in_nI (by omega) (by decide)
  have i1 : vp_in (nI j) 216 := vp_in_nI (by omega) (by decide)
  have i2 : vp_in (nI (5 + j)) 216 := vp_in_nI (by omega) (by decide)
  have i3 : vp_in (nI (10 + j)) 216 := vp_in_nI (by omega) (by decide)
  unfold factV at hK
  rcases (show wh = 0 ∨ wh = 1 ∨ wh = 2 ∨ wh = 3 ∨ wh = 4 ∨ wh = 5 by omega) with rfl | rfl | rfl | rfl | rfl | rfl
  · exact ⟨fun _ => ⟨iv, hK⟩, fun q => absurd rfl q⟩
  · exact ⟨fun q => absurd q (by decide), fun _ => ⟨fun _ => ⟨i1, hK⟩, fun q => absurd rfl q⟩⟩
  · exact ⟨fun q => absurd q (by decide), fun _ => ⟨fun q => absurd q (by decide), fun _ => ⟨fun _ => ⟨i2, hK⟩, fun q => absurd rfl q⟩⟩⟩
  · exact ⟨fun q => absurd q (by decide), fun _ => ⟨fun q => absurd q (by decide), fun _ => ⟨fun q => absurd q (by decide), fun _ => ⟨fun _ => ⟨iv, hK⟩, fun q => absurd rfl q⟩⟩⟩⟩
  · exact ⟨fun q => absurd q (by decide), fun _ => ⟨fun q => absurd q (by decide), fun _ => ⟨fun q => absurd q (by decide), fun _ => ⟨fun q => absurd q (by decide), fun _ => ⟨fun _ => ⟨i3, hK⟩, fun q => absurd rfl q⟩⟩⟩⟩⟩
  · refine ⟨fun q => absurd q (by decide), fun _ => ⟨fun q => absurd q (by decide), fun _ => ⟨fun q => absurd q (by decide), fun _ => ⟨fun q => absurd q (by decide), fun _ => ⟨fun q => absurd q (by decide), fun _ => ?_⟩⟩⟩⟩⟩
    refine c_X11_isCatching (f := 0) (by decide) hj he hF0 hw (fun q => t_one ?_) (fun q => t_zero ?_)
    · have e := catchB_1 q
      simp only [e] at hK
      exact hK
    · have e := catchB_0 q
      simp only [e] at hK
      exact hK
theorem inB {x : Int32} {n : Nat} (hn : n < 2 ^ 30) : (0 ≤ x ∧ x ≤ nI n) ↔ vp_in x (n + 1) := by
  simp only [vp_in_iff, i_le, nI_toInt (show n < 2 ^ 31 by omega), Int32.reduceToInt]
  omega
theorem op_house {u v : Int32} (h : Inv I X) : PairI g (d + 4) iX10_house iX11_house [.int u, .int v] I X := by
  obtain ⟨n, w, kd, nd, wd, D, dd, S, hE, hV, hK⟩ := h.2.2.2.2.2
  have hn := hE.1.2.2
  obtain ⟨v1, v2, v3, v4, v5, v6, v7⟩ := id hV
  have hw := v1.2.2.1 D (Nat.le_refl D)
  refine en_X10_house (c_X3_has hE (fun q => t_one ?_) (fun q => t_zero (en_X11_house (c_X11_isHouse hE (fun z => absurd z q) (fun _ => t_zero ⟨rfl, h⟩)))))
  obtain ⟨j, hj, rfl⟩ := vp_in_of q (by omega)
  by_cases hv : vp_in v 6
  · obtain ⟨wh, hwh, rfl⟩ := vp_in_of hv (by decide)
    refine ⟨fun c => absurd c (nI_pos (by omega)), fun _ => ⟨fun _ => ?_, fun c => absurd (show nI wh < nI 6 from nI_lt hwh (by decide)) c⟩⟩
    refine c_X10_factOf hj hwh hE v2.2.2.2 hw (fun I1 e1 => ?_)
    subst e1
    have hE1 : iE (set2 I 1 14 (factV kd nd (S D) j wh)) n w kd nd wd := hE.same (fun b k hb => by rw [set2_at, if_neg (by omega)])
    have hF1 : FM (set2 I 1 14 (factV kd nd (S D) j wh)) 0 (S D) := FM0.mpr (fun k hk => by rw [set2_at, if_neg (by omega)]; exact v6 k hk)
    refine en_X11_house (c_X11_isHouse hE1 (fun _ => t_one (c_X11_in (fun _ => t_one (c_X11_houseTells hj hwh hE1 hF1 hw (c_X11_tells ⟨rfl, inv_asked h⟩))) (fun z => absurd ((inB (n := 5) (by decide)).mpr hv) z))) (fun z => absurd q z))
  · have hm : CI g (d + 4) iX11_house [rf g 129, .int (nI j), .int v] I X (fun r' I2 X2 => r' = -1 ∧ Inv I2 X2) :=
      en_X11_house (c_X11_isHouse hE (fun _ => t_one (c_X11_in (fun z => absurd ((inB (n := 5) (by decide)).mp z) hv) (fun _ => t_zero ⟨rfl, h⟩))) (fun z => absurd q z))
    refine ⟨fun _ => hm, fun c => ⟨fun c2 => ?_, fun _ => hm⟩⟩
    exact absurd ((vin_nI (z := 6) (by decide)).mpr ⟨c, Int32.not_le.mpr c2⟩) hv
theorem op_wind {v : Int32} (h : Inv I X) : PairI g (d + 3) iX10_wind iX11_wind [.int v] I X := by
  obtain ⟨n, w, kd, nd, wd, D, dd, S, hE, hV, hK⟩ := h.2.2.2.2.2
  have hn := hE.1.2.2
  have e10 : nI n = 0 ↔ n = 0 := nI_eqL 0 (by omega) (by decide)
  by_cases hv : vp_in v 1000
  · obtain ⟨hr, hhr, rfl⟩ := vp_in_of hv (by decide)
    have hin : (0 : Int32) ≤ nI hr ∧ nI hr ≤ 999 := (inB (n := 999) (by decide)).mpr hv
    refine en_X10_wind ⟨fun c => absurd c (nI_pos (by omega)), fun _ => ⟨fun _ => c_X3_isEmpty hE (fun q0 => t_one ?_) (fun q0 => t_zero (c_X3_windAt (by omega) hE q0 ?_)), fun c => absurd hin.2 c⟩⟩
    · refine en_X11_wind (c_X11_in (fun _ => t_one' ?_) (fun z => absurd hin z))
      rw [hE.1.2.1, e10]
      exact ⟨fun z => absurd q0 z, fun _ => ⟨rfl, h⟩⟩
    · refine en_X11_wind (c_X11_in (fun _ => t_one' ?_) (fun z => absurd hin z))
      rw [hE.1.2.1, e10]
      exact ⟨fun _ => c_X11_windOf (by omega) hE q0 ⟨rfl, h⟩, fun z => by omega⟩
  · have hm : CI g (d + 3) iX11_wind [rf g 129, .int v] I X (fun r' I2 X2 => r' = -1 ∧ Inv I2 X2) := en_X11_wind (c_X11_in (fun z => absurd ((inB (n := 999) (by decide)).mp z) hv) (fun _ => t_zero' ⟨rfl, h⟩))
    refine en_X10_wind ⟨fun _ => hm, fun c => ⟨fun c2 => ?_, fun _ => hm⟩⟩
    exact absurd ((inB (n := 999) (by decide)).mp ⟨Int32.not_lt.mp c, c2⟩) hv
theorem lp_X1_woodFor {j q : Nat} (hj : j < n) (hq : q ≤ 100) (ha : a ∈ fireL) (h66 : a ≠ 66) (he : iE I n w kd nd wd) (hf : FR I a n F) (h15 : F 15 ≤ 900) (hK : K (nI (sumT (kd j) (F 15) q)) I X) : ∀ (z i : Nat), i + z = q → SR g (d + 3) iX1_woodFor 5 [(0, rf g a), (1, .int (nI j)), (2, .int (nI q)), (3, .int (nI (sumT (kd j) (F 15) i))), (4, .int (nI i))] I X (qI K) := by
  intro z
  induction z with
  | zero =>
    intro i hi
    obtain rfl : i = q := by omega
    exact rg_X1_woodFor_5 ha ⟨fun _ => hK, fun c => absurd (Int32.le_refl _) c⟩
  | succ z ih =>
    intro i hi
    refine rg_X1_woodFor_5 ha ⟨fun c => absurd c (nI_ge (by omega) (by omega)), fun _ => ?_⟩
    rw [lane24 h66]
    refine c_X3_kindOf hj he ?_
    rw [hf.2.2.1, nI_add]
    refine c_X2_takes (he.2.2.1 j hj).2.2 (by omega) (fun x7 e7 x8 e8 => ?_)
    rw [nI_add] at e7
    subst e7; subst e8
    rw [nI_1]
    exact ih (i + 1) (by omega)
theorem c_X1_woodFor {j q : Nat} (hj : j < n) (hq : q ≤ 100) (ha : a ∈ fireL) (h66 : a ≠ 66) (he : iE I n w kd nd wd) (hf : FR I a n F) (h15 : F 15 ≤ 900) (hK : K (nI (sumT (kd j) (F 15) q)) I X) : CI g (d + 3) iX1_woodFor [rf g a, .int (nI j), .int (nI q)] I X K :=
  en_X1_woodFor ha (lp_X1_woodFor hj hq ha h66 he hf h15 hK q 0 (by omega))
theorem lp_X11_springOf {j q : Nat} (hj : j < n) (hq : q ≤ 100) (he : iE I n w kd nd wd) (hF0 : FM I 0 F) (h15 : F 15 ≤ 900) (hK : K (nI (sumT (kd j) (F 15) q)) I X) : ∀ (z i : Nat), i + z = q → SR g (d + 2) iX11_springOf 5 [(0, rf g 129), (1, .int (nI j)), (2, .int (nI q)), (3, .int (nI (sumT (kd j) (F 15) i))), (4, .int (nI i))] I X (qI K) := by
  intro z
  induction z with
  | zero =>
    intro i hi
    obtain rfl : i = q := by omega
    exact rg_X11_springOf_5 ⟨fun _ => hK, fun c => absurd (Int32.le_refl _) c⟩
  | succ z ih =>
    intro i hi
    refine rg_X11_springOf_5 ⟨fun c => absurd c (nI_ge (by omega) (by omega)), fun _ => ⟨v15, ?_⟩⟩
    rw [t15, FM0.mp hF0 15 (by omega), nI_add]
    refine c_X11_takesIn hj (by omega) he (fun x7 e7 x8 e8 => ?_)
    rw [nI_add] at e7
    subst e7; subst e8
    rw [nI_1]
    exact ih (i + 1) (by omega)
theorem c_X11_springOf {j q : Nat} (hj : j < n) (hq : q ≤ 100) (he : iE I n w kd nd wd) (hF0 : FM I 0 F) (h15 : F 15 ≤ 900) (hK : K (nI (sumT (kd j) (F 15) q)) I X) : CI g (d + 2) iX11_springOf [rf g 129, .int (nI j), .int (nI q)] I X K :=
  en_X11_springOf (lp_X11_springOf hj hq he hF0 h15 hK q 0 (by omega))
theorem op_spring {u v : Int32} (h : Inv I X) : PairI g (d + 4) iX10_spring iX11_spring [.int u, .int v] I X := by
  obtain ⟨n, w, kd, nd, wd, D, dd, S, hE, hV, hK⟩ := h.2.2.2.2.2
  have hn := hE.1.2.2
  obtain ⟨v1, v2, v3, v4, v5, v6, v7⟩ := id hV
  have hw := v1.2.2.1 D (Nat.le_refl D)
  have hD := v1.1
  have h15 := hw.2.1
  refine en_X10_spring (c_X3_has hE (fun q => t_one ?_) (fun q => t_zero (en_X11_spring (c_X11_isHouse hE (fun z => absurd z q) (fun _ => t_zero ⟨rfl, h⟩)))))
  obtain ⟨j, hj, rfl⟩ := vp_in_of q (by omega)
  by_cases hv : vp_in v 21
  · obtain ⟨y, hy, rfl⟩ := vp_in_of hv (by decide)
    have hin : (0 : Int32) ≤ nI y ∧ nI y ≤ 20 := (inB (n := 20) (by decide)).mpr hv
    refine ⟨fun c => absurd c (nI_pos (by omega)), fun _ => ⟨fun _ => ?_, fun c => absurd hin.2 c⟩⟩
    refine c_X1_woodFor (a := 33) hj (by omega) (by decide) (by decide) hE v2.2.2.2 (by omega) ?_
    exact en_X11_spring (c_X11_isHouse hE (fun _ => t_one (c_X11_in (fun _ => t_one (c_X11_springOf hj (by omega) hE (FM0.mpr v6) (by omega) ⟨rfl, h⟩)) (fun z => absurd hin z))) (fun z => absurd q z))
  · have hm : CI g (d + 4) iX11_spring [rf g 129, .int (nI j), .int v] I X (fun r' I2 X2 => r' = -1 ∧ Inv I2 X2) :=
      en_X11_spring (c_X11_isHouse hE (fun _ => t_one (c_X11_in (fun z => absurd ((inB (n := 20) (by decide)).mp z) hv) (fun _ => t_zero ⟨rfl, h⟩))) (fun z => absurd q z))
    refine ⟨fun _ => hm, fun c => ⟨fun c2 => ?_, fun _ => hm⟩⟩
    exact absurd ((inB (n := 20) (by decide)).mp ⟨Int32.not_lt.mp c, c2⟩) hv
/-- bits of a set that a loop makes -/
theorem cset_or (F : Nat → Nat) (i : Nat) (h : catchB kd F i = 1) : cset i kd F ||| 2 ^ i = cset (i + 1) kd F := bset_or0 (fun j => catchB kd F (j - 10)) i (by show catchB kd F (10 + i - 10) = 1; rw [show 10 + i - 10 = i by omega]; exact h)
theorem cset_no (F : Nat → Nat) (i : Nat) (h : ¬ catchB kd F i = 1) : cset (i + 1) kd F = cset i kd F := by
  unfold cset
  show bset (fun j => catchB kd F (j - 10)) i + (if catchB kd F (10 + i - 10) = 1 then 2 ^ i else 0) = _
  rw [show 10 + i - 10 = i by omega, if_neg h]
  rfl
theorem lp_X1_catching (ha : a ∈ fireL) (h66 : a ≠ 66) (he : iE I n w kd nd wd) (hf : FR I a n F) (hw : WF n F m) (hK : K (nI (cset n kd F)) I X) : ∀ (q i : Nat), i + q = n → SR g (d + 3) iX1_catching 4 [(0, rf g a), (1, .int (nI (cset i kd F))), (2, .int (nI i))] I X (qI K) := by
  have hn := he.1.2.2
  intro q
  induction q with
  | zero =>
    intro i hi
    obtain rfl : i = n := by omega
    refine rg_X1_catching_4 ha ?_
    rw [lane24 h66, he.1.1]
    exact ⟨fun _ => hK, fun c => absurd (Int32.le_refl _) c⟩
  | succ q ih =>
    intro i hi
    refine rg_X1_catching_4 ha ?_
    rw [lane24 h66, he.1.1]
    refine ⟨fun c => absurd c (nI_ge (by omega) (by omega)), fun _ => c_X1_catches (by omega) ha h66 he hf hw (fun b => t_one (fun x6 e6 x7 e7 => ?_)) (fun b => t_zero (fun x4 e4 x5 e5 => ?_))⟩
    · rw [sh_one _ (by omega), i_or, cset_or F i (catchB_1 b.2)] at e6
      subst e6; subst e7
      rw [nI_1]
      exact ih (i + 1) (by omega)
    · rw [show (0 : Int32) = nI 0 from rfl, i_or, Nat.or_zero, ← cset_no F i (by rw [catchB_0 (fun z => b ⟨by omega, z⟩)]; decide)] at e4
      subst e4; subst e5
      rw [nI_1]
      exact ih (i + 1) (by omega)
theorem lp_X11_catching (hf : f < 12) (he : iE I n w kd nd wd) (hF0 : FM I f F) (hw : WF n F m) (hK : K (nI (cset n kd F)) I X) : ∀ (q i : Nat), i + q = n → SR g (d + 2) iX11_catching 4 [(0, rf g 129), (1, .int (nI f)), (2, .int (nI (cset i kd F))), (3, .int (nI i))] I X (qI K) := by
  have hn := he.1.2.2
  intro q
  induction q with
  | zero =>
    intro i hi
    obtain rfl : i = n := by omega
    refine rg_X11_catching_4 ?_
    rw [he.1.2.1]
    exact ⟨fun _ => hK, fun c => absurd (Int32.le_refl _) c⟩
  | succ q ih =>
    intro i hi
    refine rg_X11_catching_4 ?_
    rw [he.1.2.1]
    refine ⟨fun c => absurd c (nI_ge (by omega) (by omega)), fun _ => c_X11_isCatching hf (by omega) he hF0 hw (fun b => t_one (fun x6 e6 x7 e7 => ?_)) (fun b => t_zero (fun x4 e4 x5 e5 => ?_))⟩
    · rw [sh_one _ (by omega), i_or, cset_or F i (catchB_1 b)] at e6
      subst e6; subst e7
      rw [nI_1]
      exact ih (i + 1) (by omega)
    · rw [show (0 : Int32) = nI 0 from rfl, i_or, Nat.or_zero, ← cset_no F i (by rw [catchB_0 b]; decide)] at e4
      subst e4; subst e5
      rw [nI_1]
      exact ih (i + 1) (by omega)
theorem c_X11_catching (hf : f < 12) (he : iE I n w kd nd wd) (hF0 : FM I f F) (hw : WF n F m) (hK : K (nI (cset n kd F)) I X) : CI g (d + 2) iX11_catching [rf g 129, .int (nI f)] I X K :=
  en_X11_catching (lp_X11_catching hf he hF0 hw hK n 0 (by omega))
theorem op_fires (h : Inv I X) : PairI g (d + 4) iX10_fires iX11_fires [] I X := by
  obtain ⟨n, w, kd, nd, wd, D, dd, S, hE, hV, hK⟩ := h.2.2.2.2.2
  obtain ⟨v1, v2, v3, v4, v5, v6, v7⟩ := id hV
  have hw := v1.2.2.1 D (Nat.le_refl D)
  refine en_X10_fires (en_X1_catching (a := 33) (by decide) (lp_X1_catching (a := 33) (by decide) (by decide) hE v2.2.2.2 hw ?_ n 0 (by omega)))
  intro I1 e1
  subst e1
  have hE1 : iE (set2 I 1 14 (nI (cset n kd (S D)))) n w kd nd wd := hE.same (fun b k hb => by rw [set2_at, if_neg (by omega)])
  have hF1 : FM (set2 I 1 14 (nI (cset n kd (S D)))) 0 (S D) := FM0.mpr (fun k hk => by rw [set2_at, if_neg (by omega)]; exact v6 k hk)
  refine en_X11_fires (c_X11_catching (f := 0) (by decide) hE1 hF1 hw (c_X11_burning (f := 0) (by decide) hE1 hF1 hw (c_X11_tells ⟨?_, inv_asked h⟩)))
  rw [set2_at, if_neg (by omega)]
  exact v2.2.2.2.2.1.symm
end T55
