/-! ===== where ===== -/
section T61
variable {g : OG} {d : Nat} {I : IT} {X : XT} {K : Int32 → IT → XT → Prop} {KV : IT → XT → Prop}
variable {n w : Nat} {kd nd wd : Nat → Nat} {F : Nat → Nat} {m f a D : Nat} {dd : Nat → Nat} {S : Nat → Nat → Nat}
theorem lp_X11_layFirst {t : Nat} (ht12 : t < 12) (I0 : IT) (hF0 : ∀ k, k < 18 → I0 141 k = nI (F k)) (hK : ∀ I', SMf t I0 I' → FM I' t F → KV I' X) : ∀ (q i : Nat) (I : IT), i + q = 18 → SMf t I0 I → (∀ k, k < i → I 142 (18 * t + k) = nI (F k)) →
    SR g (d + 1) iX11_layFirst 2 [(0, rf g 129), (1, .int (nI t)), (2, .int (nI i))] I X (qV KV) := by
  intro q
  induction q with
  | zero =>
    intro i I hi hs h0
    obtain rfl : i = 18 := by omega
    exact rg_X11_layFirst_2 ⟨fun _ => hK I hs h0, fun c => absurd (by decide) c⟩
  | succ q ih =>
    intro i I hi hs h0
    refine rg_X11_layFirst_2 ⟨fun c => absurd c (show ¬ nI 18 ≤ nI i from nI_ge (by omega) (by omega)), fun _ => ?_⟩
    rw [ix18, nI_clamp (n := i) (by omega), nI_clamp (n := 18 * t + i) (by omega), nI_1]
    refine ⟨vp_in_nI (by omega) (by decide), vp_in_nI (by omega) (by decide), fun I3 e3 x4 e4 => ?_⟩
    subst e3; subst e4
    refine ih (i + 1) _ (by omega) (hs.trans (Same.set (by omega))) (fun k hk => ?_)
    rw [set2_at]
    by_cases qk : k = i
    · rw [if_pos ⟨rfl, by omega⟩, hs 141 i (by omega), hF0 i (by omega), qk]
    · rw [if_neg (by omega)]; exact h0 k (by omega)
theorem c_X11_layFirst {t : Nat} (ht12 : t < 12) (hF0 : ∀ k, k < 18 → I 141 k = nI (F k)) (hK : ∀ I', SMf t I I' → FM I' t F → KV I' X) : CV g (d + 1) iX11_layFirst [rf g 129, .int (nI t)] I X KV :=
  en_X11_layFirst (lp_X11_layFirst ht12 I hF0 hK 18 0 I (by omega) SMf.rf (fun k hk => by omega))
theorem wheS_y {i : Nat} (h : catchB kd F i = 1 ∧ (wheS kd F i).2 < lastF (kd i) (F 15) (F i)) : wheS kd F (i + 1) = (nI i, lastF (kd i) (F 15) (F i)) := if_pos h
theorem wheS_n {i : Nat} (h : ¬ (catchB kd F i = 1 ∧ (wheS kd F i).2 < lastF (kd i) (F 15) (F i))) : wheS kd F (i + 1) = wheS kd F i := if_neg h
theorem lastF_le (c hr w : Nat) : lastF c hr w ≤ 40 := by
  have : ∀ (p : Nat → Bool) k, cntB p k ≤ k := by
    intro p k
    induction k with
    | zero => exact Nat.le_refl 0
    | succ k ih =>
      show cntB p k + (if p k then 1 else 0) ≤ k + 1
      split <;> omega
  exact this _ 40
theorem wheS_le : ∀ i, (wheS kd F i).2 ≤ 40
  | 0 => Nat.zero_le _
  | i + 1 => by
    have ih := wheS_le i
    have := lastF_le (kd i) (F 15) (F i)
    by_cases c : catchB kd F i = 1 ∧ (wheS kd F i).2 < lastF (kd i) (F 15) (F i)
    · rw [wheS_y c]; exact this
    · rw [wheS_n c]; exact ih
theorem lp_X10_where (he : iE I n w kd nd wd) (hf : FR I 30 n F) (hw : WF n F m) (hm : m ≤ 900) (h16 : F 16 = 0) (hK : K (nI (cset n kd F)) (set2 I 1 14 (wheS kd F n).1) X) : ∀ (q i : Nat), i + q = n → SR g (d + 4) iX10_where 10 [(0, rf g 1), (1, .int (nI (cset i kd F))), (2, .int (nI (wheS kd F i).2)), (3, .int (wheS kd F i).1), (4, .int (nI i))] I X (qI K) := by
  have hn := he.1.2.2
  intro q
  induction q with
  | zero =>
    intro i hi
    obtain rfl : i = n := by omega
    refine rg_X10_where_10 ?_
    rw [he.1.1]
    exact ⟨fun _ I1 e1 => by subst e1; exact hK, fun c => absurd (Int32.le_refl _) c⟩
  | succ q ih =>
    intro i hi
    have ih' := ih (i + 1) (by omega)
    have hl := wheS_le (kd := kd) (F := F) i
    obtain ⟨u1, u2, u3, u4⟩ := hw.1 i (by omega)
    have h15 := hw.2.1
    refine rg_X10_where_10 ?_
    rw [he.1.1]
    refine ⟨fun c => absurd c (nI_ge (by omega) (by omega)), fun _ => c_X1_canStrike (a := 30) (by omega) (by decide) (by decide) he hf hw (fun b => t_one (fun x6 e6 => ?_)) (fun b => t_zero (fun x5 e5 => ?_))⟩
    · rw [sh_one _ (by omega), i_or, cset_or F i (catchB_1 b.2.2)] at e6
      subst e6
      refine c_X1_woodLasts (a := 30) (by omega) (by decide) (by decide) he hf u1 (by omega) (fun t ht hl2 => ?_)
      have e := lastF_eq hl2 ht
      rw [nI_leI (by omega) (by omega), nI_1]
      refine ⟨fun c x10 e10 => ?_, fun c x10 e10 => ?_⟩
      · subst e10
        rw [wheS_n (fun z => by rw [e] at z; omega)] at ih'
        exact ih'
      · subst e10
        rw [wheS_y ⟨catchB_1 b.2.2, by rw [e]; omega⟩, e] at ih'
        exact ih'
    · subst e5
      have hc : ¬ catchB kd F i = 1 := by rw [catchB_0 (fun z => b ⟨h16, by omega, z⟩)]; decide
      rw [cset_no F i hc, wheS_n (fun z => hc z.1)] at ih'
      rw [nI_1]
      exact ih'
def wheM (kd F : Nat → Nat) (i : Nat) : Int32 := if (wheS kd F i).2 = 0 then -1 else nI (wheS kd F i).2
theorem WF.burn {j : Nat} (hw : WF n F m) (hn : n ≤ 5) (hj : j < n) (hp : 0 < F j) : WF n (mW F (10 + j) 1) m := by
  refine ⟨fun h hh => ?_, ?_, ?_, ?_, fun k hk => ?_⟩
  · obtain ⟨u1, u2, u3, u4⟩ := hw.1 h hh
    simp only [mW_at]
    rw [if_neg (show ¬ h = 10 + j by omega), if_neg (show ¬ 5 + h = 10 + j by omega)]
    refine ⟨u1, u2, by split <;> omega, fun z => ?_⟩
    by_cases e : h = j
    · subst e; exact hp
    · rw [if_neg (by omega)] at z; exact u4 z
  · rw [mW_at, if_neg (by omega)]; exact hw.2.1
  · rw [mW_at, if_neg (by omega)]; exact hw.2.2.1
  · rw [mW_at, if_neg (by omega)]; exact hw.2.2.2.1
  · rw [mW_at]
    have := hw.2.2.2.2 k hk
    split <;> omega
theorem cset_bit {j : Nat} : cset n kd F / 2 ^ j % 2 = 1 ↔ j < n ∧ catchB kd F j = 1 := by
  unfold cset
  rw [bset_bit, show 10 + j - 10 = j by omega]
  by_cases c : j < n ∧ catchB kd F j = 1
  · rw [if_pos c]; exact ⟨fun _ => c, fun _ => rfl⟩
  · rw [if_neg c]; exact ⟨fun z => absurd z (by decide), fun z => absurd z c⟩
theorem wood_last {c hr wo : Nat} (h9 : wo ≤ 9) : ∃ t, t ≤ 36 ∧ isLast c hr wo t := by
  have key : ∀ q i, i + q = 36 → (∀ s, s < i → sumT c hr s < wo) → ∃ t, t ≤ 36 ∧ isLast c hr wo t := by
    intro q
    induction q with
    | zero =>
      intro i hi hs
      obtain rfl : i = 36 := by omega
      have := sumT_36 c hr
      exact ⟨36, Nat.le_refl _, isLast_mk (by omega) hs⟩
    | succ q ih =>
      intro i hi hs
      by_cases z : sumT c hr i < wo
      · refine ih (i + 1) (by omega) (fun s hs' => ?_)
        by_cases e : s = i
        · rw [e]; exact z
        · exact hs s (by omega)
      · exact ⟨i, by omega, isLast_mk (by omega) hs⟩
  exact key 36 0 rfl (fun s hs => absurd hs (Nat.not_lt_zero s))
theorem lp_X11_where (he0 : iE I n w kd nd wd) (hf : ∀ k, k < 18 → I 141 k = nI (F k)) (hw : WF n F m) (hm : m + 40 ≤ 900) (h16 : F 16 = 0) (hK : ∀ I', SMf 1 I I' → K (nI (cset n kd F)) (set2 I' 129 2 (wheS kd F n).1) X) : ∀ (q i : Nat) (I' : IT), i + q = n → SMf 1 I I' → SR g (d + 5) iX11_where 19 [(0, rf g 129), (1, .int (nI (cset n kd F))), (2, .int (wheS kd F i).1), (3, .int (wheM kd F i)), (4, .int (nI i))] I' X (qI K) := by
  have hn := he0.1.2.2
  have h15 := hw.2.1
  intro q
  induction q with
  | zero =>
    intro i I' hi hS
    obtain rfl : i = n := by omega
    refine rg_X11_where_19 ?_
    rw [(he0.frame hS).1.2.1]
    exact ⟨fun _ => c_X11_tells (hK I' hS), fun c => absurd (Int32.le_refl _) c⟩
  | succ q ih =>
    intro i I' hi hS
    have he := he0.frame hS
    have hl := wheS_le (kd := kd) (F := F) i
    have hcl : cset n kd F < 2 ^ 5 := Nat.lt_of_lt_of_le (bset_lt _ n) (Nat.pow_le_pow_right (n := 2) (by decide) hn)
    obtain ⟨u1, u2, u3, u4⟩ := hw.1 i (by omega)
    refine rg_X11_where_19 ?_
    rw [he.1.2.1]
    refine ⟨fun c => absurd c (nI_ge (by omega) (by omega)), fun _ => c_X11_has (by omega) (by omega) (fun b => t_one ?_) (fun b => t_zero (fun x7 e7 => ?_))⟩
    · have hb := (cset_bit.mp b).2
      have hp : 0 < F i := by
        by_cases z : catchN kd F i
        · exact z.1
        · rw [catchB_0 z] at hb; exact absurd hb (by decide)
      refine c_X11_layFirst (t := 1) (by decide) (F := F) (fun k hk => by rw [hS 141 k (by omega)]; exact hf k hk) (fun I2 h2 hF2 => ?_)
      rw [show (28 : Int32) + nI i = nI (18 * 1 + (10 + i)) by rw [show (28 : Int32) = nI 28 from rfl, nI_add]; congr 1; omega, nI_clamp (by omega), sh_one _ (by omega)]
      refine ⟨vp_in_nI (by omega) (by decide), fun I3 e3 => ?_⟩
      have hF3 : FM I3 1 (mW F (10 + i) 1) := by rw [e3]; exact FM.set1 (by omega) hF2
      have h3 : SMf 1 I2 I3 := by rw [e3]; exact Same.set (by omega)
      obtain ⟨t, ht, hla⟩ := wood_last (c := kd i) (hr := F 15) u1
      have e := lastF_eq hla ht
      have ht0 : 0 < t := (hla 0).mp hp
      refine c_X11_outOf (T := t) (m := m) hm ht ((he.frame h2).frame h3) (hw.burn hn (by omega) hp) hF3 (fun s => ?_) (fun I4 h4 => ?_)
      · rw [and_one (by omega), (PP_house hn (by omega) (by rw [mW_at, if_pos rfl, mW_at, if_neg (by omega)]; exact fun _ => hp) s).1, mW_at, if_pos rfl, mW_at, if_neg (by omega), mW_at, if_neg (by omega), hla s]
        omega
      · have ih' := ih (i + 1) I4 (by omega) (((hS.trans h2).trans h3).trans h4)
        have key : nI t ≤ wheM kd F i ↔ t ≤ (wheS kd F i).2 := by
          unfold wheM
          by_cases z : (wheS kd F i).2 = 0
          · rw [if_pos z]
            refine ⟨fun c => ?_, fun c => by omega⟩
            rw [i_le, nI_toInt (by omega)] at c
            have : (-1 : Int32).toInt = -1 := by decide
            omega
          · rw [if_neg z, nI_leI (by omega) (by omega)]
        rw [key, nI_1]
        refine ⟨fun c => ⟨fun _ x5 e5 => ?_, fun c2 => absurd c c2⟩, fun c => ⟨fun c2 => absurd c2 c, fun _ x5 e5 => ?_⟩⟩
        · subst e5
          unfold wheM at ih' ⊢
          rw [wheS_n (fun z => by rw [e] at z; omega)] at ih'
          exact ih'
        · subst e5
          unfold wheM at ih'
          rw [wheS_y ⟨hb, by rw [e]; omega⟩, e, if_neg (show ¬ t = 0 by omega)] at ih'
          exact ih'
    · subst e7
      have ih' := ih (i + 1) I' (by omega) hS
      have hc : ¬ catchB kd F i = 1 := fun z => b (cset_bit.mpr ⟨by omega, z⟩)
      unfold wheM at ih' ⊢
      rw [wheS_n (fun z => hc z.1)] at ih'
      rw [nI_1]
      exact ih'
theorem op_where (h : Inv I X) : PairI g (d + 5) iX10_where iX11_where [] I X := by
  obtain ⟨n, w, kd, nd, wd, D, dd, S, hE, hV, hK⟩ := h.2.2.2.2.2
  have hn := hE.1.2.2
  obtain ⟨v1, v2, v3, v4, v5, v6, v7⟩ := id hV
  have hD := v1.1
  have hw := v1.2.2.1 0 (Nat.zero_le D)
  have h16 := v1.2.2.2.2.1
  refine en_X10_where (lp_X10_where hE v2.2.2.1 hw (by omega) h16 ?_ n 0 (by omega))
  have hE1 : iE (set2 I 1 14 (wheS kd (S 0) n).1) n w kd nd wd := hE.same (fun b k hb => by rw [set2_at, if_neg (by omega)])
  refine en_X11_where (c_X11_layFirst (t := 2) (by decide) (F := S 0) (fun k hk => by rw [set2_at, if_neg (by omega)]; exact v5 k hk) (fun I1 h1 hF1 => ?_))
  refine c_X11_catching (f := 2) (by decide) (hE1.frame h1) hF1 hw ?_
  refine lp_X11_where (m := 0) (hE1.frame h1) (fun k hk => by rw [h1 141 k (by omega), set2_at, if_neg (by omega)]; exact v5 k hk) hw (by omega) h16 (fun I2 h2 => ⟨rfl, inv_asked_lanes h (fun b k hb => by rw [h2 b k (by omega), h1 b k (by omega)])⟩) n 0 I1 (by omega) SMf.rf
end T61
