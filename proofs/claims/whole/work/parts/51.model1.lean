/-! ===== the model's frames ===== -/
def FM (I : IT) (f : Nat) (F : Nat → Nat) : Prop := ∀ k, k < 18 → I 142 (18 * f + k) = nI (F k)
def SMf (f : Nat) (I I' : IT) : Prop := Same (fun b k => b = 142 ∧ 18 * f ≤ k ∧ k < 18 * f + 18) I I'
theorem SMf.rf {f : Nat} {I : IT} : SMf f I I := Same.rf
theorem SMf.trans {f : Nat} {I I' I2 : IT} (h : SMf f I I') (h2 : SMf f I' I2) : SMf f I I2 := Same.trans h h2
theorem i18 (f c j : Nat) : 18 * nI f + nI c + nI j = nI (18 * f + (c + j)) := by
  show nI 18 * nI f + nI c + nI j = _
  rw [pk_mul, nI_add, nI_add, Nat.add_assoc]
theorem i18c (f c : Nat) : 18 * nI f + nI c = nI (18 * f + c) := ix18 f c
theorem i18_10 (f j : Nat) : 18 * nI f + 10 + nI j = nI (18 * f + (10 + j)) := i18 f 10 j
theorem i18_5 (f j : Nat) : 18 * nI f + 5 + nI j = nI (18 * f + (5 + j)) := i18 f 5 j
theorem i18_15 (f : Nat) : 18 * nI f + 15 = nI (18 * f + 15) := i18c f 15
theorem i18_17 (f : Nat) : 18 * nI f + 17 = nI (18 * f + 17) := i18c f 17
section T51
variable {g : OG} {d : Nat} {I : IT} {X : XT} {K : Int32 → IT → XT → Prop} {KV : IT → XT → Prop}
variable {n w : Nat} {kd nd wd : Nat → Nat} {F : Nat → Nat} {m f : Nat}
theorem FM.other {I I' : IT} {t : Nat} (h : FM I f F) (hft : f ≠ t) (hs : SMf t I I') : FM I' f F := fun k hk => by
  rw [hs 142 _ (by omega)]; exact h k hk
theorem iE.frame {I I' : IT} (h : iE I n w kd nd wd) (hs : SMf f I I') : iE I' n w kd nd wd := h.same (fun b k hb => hs b k (by omega))
theorem c_X11_isBurning {h : Nat} (hf : f < 12) (hh : h < 8) (hF0 : FM I f F) (hb : F (10 + h) ≤ 1000) (hT : F (10 + h) = 1 → K 1 I X) (hF : ¬ F (10 + h) = 1 → K 0 I X) : CI g (d + 1) iX11_isBurning [rf g 129, .int (nI f), .int (nI h)] I X K := by
  have e1 : nI (F (10 + h)) = 1 ↔ F (10 + h) = 1 := nI_eqL 1 (by omega) (by decide)
  refine en_X11_isBurning ?_
  rw [i18_10, nI_clamp (by omega), hF0 _ (by omega), e1]
  exact ⟨vp_in_nI (by omega) (by decide), hF, hT⟩
theorem c_X11_hourOf (hf : f < 12) (hF0 : FM I f F) (hK : K (nI (F 15)) I X) : CI g (d + 1) iX11_hourOf [rf g 129, .int (nI f)] I X K := by
  refine en_X11_hourOf ?_
  rw [i18_15, nI_clamp (by omega), hF0 15 (by omega)]
  exact ⟨vp_in_nI (by omega) (by decide), hK⟩
theorem c_X11_windOf {hr : Nat} (hh : hr ≤ 1000) (he : iE I n w kd nd wd) (h0 : 0 < n) (hK : K (nI (wd (hr % w))) I X) : CI g (d + 1) iX11_windOf [rf g 129, .int (nI hr)] I X K := by
  have hb := he.2.1
  have hw := hb.2.2.2 h0
  have hl : hr % w < w := Nat.mod_lt _ hw
  have hw6 := hb.2.2.1
  refine en_X11_windOf ?_
  rw [hb.2.1, pk_rem (by omega) hw (by omega), nI_clamp (by omega)]
  refine ⟨nI_ne0 hw (by omega), vp_in_nI (by omega) (by decide), ?_⟩
  rw [(he.2.2.2.2 _ hl).2.1]
  exact hK
theorem c_X11_isCatching {h : Nat} (hf : f < 12) (hh : h < n) (he : iE I n w kd nd wd) (hF0 : FM I f F) (hw : WF n F m) (hT : catchN kd F h → K 1 I X) (hF : ¬ catchN kd F h → K 0 I X) : CI g (d + 1) iX11_isCatching [rf g 129, .int (nI f), .int (nI h)] I X K := by
  have hn := he.1.2.2
  obtain ⟨v1, v2, v3, v4⟩ := hw.1 h hh
  obtain ⟨-, hk, hk5⟩ := he.2.2.1 h hh
  have hin : vp_in (nI h) 5 := vp_in_nI (by omega) (by decide)
  have hi2 : vp_in (nI (18 * f + h)) 216 := vp_in_nI (by omega) (by decide)
  refine en_X11_isCatching ?_
  rw [i18_5, ix18, nI_clamp (n := 18 * f + (5 + h)) (by omega), nI_clamp (n := 18 * f + h) (by omega), nI_clamp (n := h) (by omega), hF0 _ (by omega), hF0 _ (by omega), hk, nle0 (by omega)]
  refine ⟨vp_in_nI (by omega) (by decide), fun x2 e2 => ?_⟩
  subst e2
  have l0 : (0 : Int32) < nI (F (5 + h)) ↔ 0 < F (5 + h) := nI_ltI (a := 0) (by decide) (by omega)
  have l1 : (1 : Int32) < nI (F (5 + h)) ↔ 1 < F (5 + h) := nI_ltI (a := 1) (by decide) (by omega)
  have l3 : (3 : Int32) < nI (F (5 + h)) ↔ 3 < F (5 + h) := nI_ltI (a := 3) (by decide) (by omega)
  have c5 : nI (kd h) = 5 ↔ kd h = 5 := nI_eqL 5 (by omega) (by decide)
  have c2 : nI (kd h) = 2 ↔ kd h = 2 := nI_eqL 2 (by omega) (by decide)
  rw [l0, l1, l3, c5, c2]
  refine ⟨hin, fun q5 => ⟨hin, fun q2 => ⟨hi2, fun z0 => hF (fun z => by have := z.1; omega), fun z0 => ⟨fun z1 => hF (fun z => ?_), fun z1 => hT ⟨by omega, ?_⟩⟩⟩, fun q2 => ⟨hi2, fun z0 => hF (fun z => by have := z.1; omega), fun z0 => ⟨fun z1 => hF (fun z => ?_), fun z1 => hT ⟨by omega, ?_⟩⟩⟩⟩, fun q5 => ⟨hi2, fun z0 => hF (fun z => by have := z.1; omega), fun z0 => ⟨fun z1 => hF (fun z => ?_), fun z1 => hT ⟨by omega, ?_⟩⟩⟩⟩
  · have := z.2; unfold damp at this; rw [if_neg q5, if_neg q2] at this; omega
  · unfold damp; rw [if_neg q5, if_neg q2]; omega
  · have := z.2; unfold damp at this; rw [if_neg q5, if_pos q2] at this; omega
  · unfold damp; rw [if_neg q5, if_pos q2]; omega
  · have := z.2; unfold damp at this; rw [if_pos q5] at this; omega
  · unfold damp; rw [if_pos q5]; omega
theorem c_X11_size {h k : Nat} (hh : h < 1000) (hk : k < 1000) (hK : K (nI (adiff h k)) I X) : CI g (d + 1) iX11_size [.int (nI h - nI k)] I X K := by
  have e := abs_diff hh hk
  rw [← e] at hK
  refine en_X11_size ⟨fun c => ?_, fun c => ?_⟩
  · first
      | (rw [if_pos (Int32.not_lt.mp (fun z => absurd c (by simpa using z)))] at hK; exact hK)
      | (rw [if_neg (fun z => absurd c (Int32.not_lt.mpr z))] at hK; rw [Int32.zero_sub] at hK; exact hK)
      | (rw [if_pos c] at hK; exact hK)
  · first
      | (rw [if_neg (fun z => absurd z c)] at hK; rw [Int32.zero_sub] at hK; exact hK)
      | (rw [if_pos (Int32.not_lt.mp c)] at hK; exact hK)
theorem c_X11_canCarry {h k : Nat} (hf : f < 12) (hh : h < n) (hk : k < n) (he : iE I n w kd nd wd) (hF0 : FM I f F) (hw : WF n F m) (hm : m ≤ 900) (hT : canN n w kd wd F h k → K 1 I X) (hF : ¬ canN n w kd wd F h k → K 0 I X) : CI g (d + 2) iX11_canCarry [rf g 129, .int (nI f), .int (nI h), .int (nI k)] I X K := by
  have hn := he.1.2.2
  obtain ⟨u1, u2, u3, u4⟩ := hw.1 h hh
  obtain ⟨v1, v2, v3, v4⟩ := hw.1 k hk
  have h17 := hw.2.2.2.1
  refine en_X11_canCarry ?_
  rw [nI_eqL k (by omega) (by omega), i18_17, nI_clamp (by omega), hF0 17 (by omega)]
  have e17 : nI (F 17) = 0 ↔ F 17 = 0 := nI_eqL 0 (by omega) (by decide)
  rw [e17]
  refine ⟨fun c => t_zero (hF (fun z => ?_)), fun c => ⟨vp_in_nI (by omega) (by decide), fun c2 => t_zero (hF (fun z => c2 z.1)), fun c2 => ?_⟩⟩
  · subst c; exact z.2.2.1.2 z.2.1.2
  · refine c_X11_isBurning hf (by omega) hF0 (by omega) (fun b1 => t_one ?_) (fun b1 => t_zero (t_zero (hF (fun z => b1 z.2.1.2))))
    refine c_X11_isBurning hf (by omega) hF0 (by omega) (fun b2 => t_one' (t_zero (hF (fun z => z.2.2.1.2 b2)))) (fun b2 => t_zero' ?_)
    refine c_X11_isCatching hf hk he hF0 hw (fun b3 => t_one (t_one ?_)) (fun b3 => t_zero (t_zero (hF (fun z => b3 z.2.2.2.2))))
    refine c_X11_size (by omega) (by omega) (c_X11_hourOf hf hF0 (c_X11_windOf (by have := hw.2.1; omega) he (by omega) ?_))
    have hwl : F 15 % w < w := Nat.mod_lt _ (he.2.1.2.2.2 (by omega))
    have hwd := (he.2.2.2.2 _ hwl).2.2
    have e3 : (3 : Int32) - nI (wd (F 15 % w)) = nI (3 - wd (F 15 % w)) := pk_sub (a := 3) (by omega)
    have hq : adiff h k ≤ 64 := by unfold adiff; split <;> omega
    rw [e3, nI_ltI (by omega) (by omega)]
    exact ⟨fun c3 => hF (fun z => by have := z.2.2.2.1; omega), fun c3 => hT ⟨c2, ⟨hh, b1⟩, ⟨hk, b2⟩, by omega, b3⟩⟩
theorem c_X11_carries {k : Nat} (hf : f < 12) (hk : k < 5) (hF0 : FM I f F) (hK : ∀ I', SMf f I I' → FM I' f (carryN F k) → KV I' X) : CV g (d + 1) iX11_carries [rf g 129, .int (nI f), .int (nI k)] I X KV := by
  refine en_X11_carries ?_
  rw [i18_10, i18_17, nI_clamp (by omega), nI_clamp (by omega)]
  refine ⟨vp_in_nI (by omega) (by decide), fun I2 e2 => ⟨vp_in_nI (by omega) (by decide), fun I4 e4 => ?_⟩⟩
  subst e2; subst e4
  refine hK _ (Same.step (Same.set (by omega)) (by omega)) (fun j hj => ?_)
  unfold carryN
  rw [set2_at, set2_at, mW_at, mW_at]
  by_cases q1 : j = 17
  · rw [if_pos ⟨rfl, by omega⟩, if_pos q1]; rfl
  · rw [if_neg (by omega), if_neg q1]
    by_cases q2 : j = 10 + k
    · rw [if_pos ⟨rfl, by omega⟩, if_pos q2]; rfl
    · rw [if_neg (by omega), if_neg q2]; exact hF0 j hj
theorem c_X11_takesIn {h hr : Nat} (hh : h < n) (hr1 : hr ≤ 1000) (he : iE I n w kd nd wd) (hK : K (nI (takeN (kd h) hr)) I X) : CI g (d + 1) iX11_takesIn [rf g 129, .int (nI h), .int (nI hr)] I X K := by
  have hn := he.1.2.2
  obtain ⟨-, hk, hk5⟩ := he.2.2.1 h hh
  refine en_X11_takesIn ?_
  rw [nI_clamp (by omega), hk, i_rem2 (by omega), i_rem4 (by omega)]
  refine ⟨vp_in_nI (by omega) (by decide), ?_⟩
  generalize kd h = c at hK hk5
  rcases (show c = 0 ∨ c = 1 ∨ c = 2 ∨ c = 3 ∨ c = 4 ∨ c = 5 by omega) with rfl | rfl | rfl | rfl | rfl | rfl
  · exact ⟨fun q => absurd q (by decide), fun _ => ⟨fun q => absurd q (by decide), fun _ => ⟨fun q => absurd q (by decide), fun _ => ⟨fun q => absurd q (by decide), fun _ => hK⟩⟩⟩⟩
  · refine ⟨fun _ => ⟨fun q => ?_, fun q => ?_⟩, fun q => absurd rfl q⟩
    · have e : hr % 2 = 0 := by
        rcases Nat.mod_two_eq_zero_or_one hr with e | e
        · exact e
        · exact absurd (by rw [e]; rfl) q
      have e2 : takeN 1 hr = 1 := by simp [takeN, e]
      rw [e2] at hK
      exact hK
    · have e : hr % 2 = 1 := (nI_eqL 1 (by omega) (by decide)).mp q
      have e2 : takeN 1 hr = 0 := by simp [takeN, e]
      rw [e2] at hK
      exact hK
  · exact ⟨fun q => absurd q (by decide), fun _ => ⟨fun _ => hK, fun q => absurd rfl q⟩⟩
  · exact ⟨fun q => absurd q (by decide), fun _ => ⟨fun q => absurd q (by decide), fun _ => ⟨fun _ => hK, fun q => absurd rfl q⟩⟩⟩
  · refine ⟨fun q => absurd q (by decide), fun _ => ⟨fun q => absurd q (by decide), fun _ => ⟨fun q => absurd q (by decide), fun _ => ⟨fun _ => ⟨fun q => ?_, fun q => ?_⟩, fun q => absurd rfl q⟩⟩⟩⟩
    · have e : ¬ hr % 4 = 0 := fun z => q (by rw [z]; rfl)
      have e2 : takeN 4 hr = 0 := by simp [takeN, e]
      rw [e2] at hK
      exact hK
    · have e : hr % 4 = 0 := (nI_eqL 0 (by omega) (by decide)).mp q
      have e2 : takeN 4 hr = 1 := by simp [takeN, e]
      rw [e2] at hK
      exact hK
  · exact ⟨fun q => absurd q (by decide), fun _ => ⟨fun q => absurd q (by decide), fun _ => ⟨fun q => absurd q (by decide), fun _ => ⟨fun q => absurd q (by decide), fun _ => hK⟩⟩⟩⟩
theorem c_X11_has {b j : Nat} (hb : b < 2 ^ 31) (hj : j < 32) (hT : b / 2 ^ j % 2 = 1 → K 1 I X) (hF : ¬ b / 2 ^ j % 2 = 1 → K 0 I X) : CI g (d + 1) iX11_has [.int (nI b), .int (nI j)] I X K := by
  refine en_X11_has ?_
  rw [bit_at hb hj]
  have e : nI (b / 2 ^ j % 2) = 1 ↔ b / 2 ^ j % 2 = 1 := nI_eqL 1 (by omega) (by decide)
  rw [e]
  exact ⟨hF, hT⟩
theorem bset_or0 (F : Nat → Nat) (i : Nat) (h : F (10 + i) = 1) : bset F i ||| 2 ^ i = bset F (i + 1) := by
  apply Nat.eq_of_testBit_eq
  intro j
  rw [Nat.testBit_or, bset_tb, bset_tb, Nat.testBit_two_pow]
  by_cases hj : j = i
  · subst hj; simp [h]
  · have h1 : ¬ i = j := fun e => hj e.symm
    by_cases h2 : j < i
    · simp [h1, h2, show j < i + 1 by omega]
    · simp [h1, h2, show ¬ j < i + 1 by omega]
theorem lp_X11_burning (hf : f < 12) (he : iE I n w kd nd wd) (hF0 : FM I f F) (hw : WF n F m) (hK : K (nI (bset F n)) I X) : ∀ (q i : Nat), i + q = n → SR g (d + 2) iX11_burning 4 [(0, rf g 129), (1, .int (nI f)), (2, .int (nI (bset F i))), (3, .int (nI i))] I X (qI K) := by
  have hn := he.1.2.2
  intro q
  induction q with
  | zero =>
    intro i hi
    obtain rfl : i = n := by omega
    refine rg_X11_burning_4 ?_
    rw [he.1.2.1]
    exact ⟨fun _ => hK, fun c => absurd (Int32.le_refl _) c⟩
  | succ q ih =>
    intro i hi
    have hv := (hw.1 i (by omega)).2.2.1
    refine rg_X11_burning_4 ?_
    rw [he.1.2.1]
    refine ⟨fun c => absurd c (nI_ge (by omega) (by omega)), fun _ => c_X11_isBurning hf (by omega) hF0 (by omega) (fun b => t_one (fun x6 e6 x7 e7 => ?_)) (fun b => t_zero (fun x4 e4 x5 e5 => ?_))⟩
    · rw [sh_one _ (by omega), i_or, bset_or0 F i b] at e6
      subst e6; subst e7
      rw [nI_1]
      exact ih (i + 1) (by omega)
    · rw [show (0 : Int32) = nI 0 from rfl, i_or, Nat.or_zero] at e4
      subst e4; subst e5
      rw [nI_1]
      have e : bset F (i + 1) = bset F i := by show bset F i + (if F (10 + i) = 1 then 2 ^ i else 0) = _; rw [if_neg b]; rfl
      have := ih (i + 1) (by omega)
      rw [e] at this
      exact this
theorem c_X11_burning (hf : f < 12) (he : iE I n w kd nd wd) (hF0 : FM I f F) (hw : WF n F m) (hK : K (nI (bset F n)) I X) : CI g (d + 2) iX11_burning [rf g 129, .int (nI f)] I X K :=
  en_X11_burning (lp_X11_burning hf he hF0 hw hK n 0 (by omega))
end T51
