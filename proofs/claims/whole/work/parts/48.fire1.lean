/-! ===== the lane, the kinds, what a Fire tells ===== -/
def catchN (kd : Nat → Nat) (F : Nat → Nat) (h : Nat) : Prop := 0 < F h ∧ F (5 + h) ≤ damp (kd h)
def adiff (h k : Nat) : Nat := if h ≤ k then k - h else h - k
def canN (n w : Nat) (kd wd : Nat → Nat) (F : Nat → Nat) (h k : Nat) : Prop := F 17 = 0 ∧ (h < n ∧ F (10 + h) = 1) ∧ (k < n ∧ ¬ F (10 + k) = 1) ∧ adiff h k + wd (F 15 % w) ≤ 3 ∧ catchN kd F k
theorem i_rem2 {a : Nat} (h : a < 2 ^ 31) : nI a - nI a / 2 * 2 = nI (a % 2) := pk_rem (d := 2) h (by decide) (by decide)
theorem i_rem4 {a : Nat} (h : a < 2 ^ 31) : nI a - nI a / 4 * 4 = nI (a % 4) := pk_rem (d := 4) h (by decide) (by decide)
theorem i_rem6 {a : Nat} (h : a < 2 ^ 31) : nI a - nI a / 6 * 6 = nI (a % 6) := pk_rem (d := 6) h (by decide) (by decide)
theorem i_div6 {a : Nat} (h : a < 2 ^ 31) : nI a / 6 = nI (a / 6) := pk_div (d := 6) h (by decide) (by decide)
theorem i_t0 : (0 : Int32).toInt = 0 := by decide
theorem nI_eqL {a : Nat} (b : Nat) (ha : a < 2 ^ 31) (hb : b < 2 ^ 31) : nI a = nI b ↔ a = b := nI_eq ha hb
theorem damp_le (c : Nat) : damp c ≤ 3 := by unfold damp; split; · decide
                                             split <;> decide
theorem takeN_le (c hr : Nat) : takeN c hr ≤ 2 := by
  unfold takeN
  split
  · decide
  · split
    · split <;> decide
    · split
      · split <;> decide
      · decide
section T48
variable {g : OG} {d : Nat} {I : IT} {X : XT} {K : Int32 → IT → XT → Prop} {KV : IT → XT → Prop}
variable {n w : Nat} {kd nd wd : Nat → Nat} {F : Nat → Nat} {m : Nat}
theorem c_X3_has {h : Int32} (he : iE I n w kd nd wd) (hT : vp_in h n → K 1 I X) (hF : ¬ vp_in h n → K 0 I X) : CI g (d + 1) iX3_has [rf g 24, .int h] I X K := by
  obtain ⟨⟨a1, a2, a3⟩, -⟩ := he
  have hv := vin_nI (x := h) (z := n) (by omega)
  refine en_X3_has (by decide) ⟨fun c => hF (fun q => (hv.mp q).1 c), fun c => ?_⟩
  rw [a1]
  exact ⟨fun c2 => hF (fun q => (hv.mp q).2 c2), fun c2 => hT (hv.mpr ⟨c, c2⟩)⟩
theorem vin_of {j : Nat} (hj : j < 2 ^ 31) (hn : n ≤ 5) : vp_in (nI j) n ↔ j < n := by
  rw [vp_in_iff, nI_toInt hj]
  omega
theorem c_X3_hasJ {j : Nat} (hj : j < 2 ^ 31) (he : iE I n w kd nd wd) (hT : j < n → K 1 I X) (hF : ¬ j < n → K 0 I X) : CI g (d + 1) iX3_has [rf g 24, .int (nI j)] I X K := by
  have hn := he.1.2.2
  exact c_X3_has he (fun q => hT ((vin_of hj hn).mp q)) (fun q => hF (fun z => q ((vin_of hj hn).mpr z)))
theorem c_X3_isEmpty (he : iE I n w kd nd wd) (hT : n = 0 → K 1 I X) (hF : 0 < n → K 0 I X) : CI g (d + 1) iX3_isEmpty [rf g 24] I X K := by
  obtain ⟨⟨a1, a2, a3⟩, -⟩ := he
  refine en_X3_isEmpty (by decide) ?_
  rw [a1]
  refine ⟨fun c => hF ?_, fun c => hT ?_⟩
  · rw [i_lt, nI_toInt (by omega), i_t0] at c; omega
  · rw [i_lt, nI_toInt (by omega), i_t0] at c; omega
theorem all_all : ∀ n, n ≤ 5 → ((1 : Int32) <<< (nI n &&& 31)) - 1 = nI (2 ^ n - 1) := by decide +kernel
theorem c_X3_allHouses (he : iE I n w kd nd wd) (hK : K (nI (2 ^ n - 1)) I X) : CI g (d + 1) iX3_allHouses [rf g 24] I X K := by
  obtain ⟨⟨a1, a2, a3⟩, -⟩ := he
  refine en_X3_allHouses (by decide) ?_
  rw [a1, all_all n a3]
  exact hK
theorem c_X3_kindOf {j : Nat} (hj : j < n) (he : iE I n w kd nd wd) (hK : K (nI (kd j)) I X) : CI g (d + 2) iX3_kindOf [rf g 24, .int (nI j)] I X K := by
  have hn := he.1.2.2
  refine en_X3_kindOf (by decide) (c_X3_hasJ (by omega) he (fun _ => t_one ⟨vp_in_nI (by omega) (by decide), ?_⟩) (fun q => absurd hj q))
  rw [nI_clamp (by omega), (he.2.2.1 j hj).1]
  exact hK
theorem c_X3_needOf {j : Nat} (hj : j < n) (he : iE I n w kd nd wd) (hK : K (ndI (nd j)) I X) : CI g (d + 2) iX3_needOf [rf g 24, .int (nI j)] I X K := by
  have hn := he.1.2.2
  refine en_X3_needOf (by decide) (c_X3_hasJ (by omega) he (fun _ => t_one ⟨vp_in_nI (by omega) (by decide), ?_⟩) (fun q => absurd hj q))
  rw [nI_clamp (by omega), (he.2.2.2.1 j hj).1]
  exact hK
theorem c_X3_hasWinds (he : iE I n w kd nd wd) (h0 : 0 < n) (hK : K 1 I X) : CI g (d + 1) iX3_hasWinds [rf g 24] I X K := by
  obtain ⟨-, ⟨b1, b2, b3, b4⟩, -⟩ := he
  refine en_X3_hasWinds (by decide) ?_
  rw [b1]
  have := b4 h0
  refine ⟨fun c => ?_, fun c => ?_⟩
  · first | exact hK | (rw [i_le, nI_toInt (by omega), i_t0] at c; omega)
  · first | exact hK | (rw [i_lt, nI_toInt (by omega), i_t0] at c; omega)
theorem c_X3_windAt {hr : Nat} (hh : hr ≤ 1000) (he : iE I n w kd nd wd) (h0 : 0 < n) (hK : K (nI (wd (hr % w))) I X) : CI g (d + 2) iX3_windAt [rf g 24, .int (nI hr)] I X K := by
  have hb := he.2.1
  have hw := hb.2.2.2 h0
  have hl : hr % w < w := Nat.mod_lt _ hw
  refine en_X3_windAt (by decide) ⟨fun c => absurd c (nI_pos (by omega)), fun _ => c_X3_hasWinds he h0 (t_one' ?_)⟩
  rw [hb.1, pk_rem (by omega) hw (by have := hb.2.2.1; omega), nI_clamp (by have := hb.2.2.1; omega)]
  refine ⟨nI_ne0 hw (by have := hb.2.2.1; omega), vp_in_nI (by have := hb.2.2.1; omega) (by decide), ?_⟩
  rw [show I (24 + 3) (hr % w) = I 27 (hr % w) from rfl, (he.2.2.2.2 _ hl).1]
  exact hK
theorem c_X2_takes {c hr : Nat} (hc : c ≤ 5) (hh : hr ≤ 1000) (hK : K (nI (takeN c hr)) I X) : CI g (d + 1) iX2_takes [.int (nI c), .int (nI hr)] I X K := by
  refine en_X2_takes ?_
  rw [i_rem2 (by omega), i_rem4 (by omega)]
  rcases (show c = 0 ∨ c = 1 ∨ c = 2 ∨ c = 3 ∨ c = 4 ∨ c = 5 by omega) with rfl | rfl | rfl | rfl | rfl | rfl
  · exact ⟨fun q => absurd q (by decide), fun _ => ⟨fun q => absurd q (by decide), fun _ => ⟨fun q => absurd q (by decide), fun _ => ⟨fun q => absurd q (by decide), fun _ => hK⟩⟩⟩⟩
  · refine ⟨fun _ => ⟨fun q => ?_, fun q => ?_⟩, fun q => absurd rfl q⟩
    · have e : ¬ hr % 2 = 0 := fun z => q (by rw [z]; rfl)
      have e2 : takeN 1 hr = 0 := by simp [takeN, e]
      rw [e2] at hK
      exact hK
    · have e : hr % 2 = 0 := (nI_eqL 0 (by omega) (by decide)).mp q
      have e2 : takeN 1 hr = 1 := by simp [takeN, e]
      rw [e2] at hK
      exact hK
  · exact ⟨fun q => absurd q (by decide), fun _ => ⟨fun _ => hK, fun q => absurd rfl q⟩⟩
  · exact ⟨fun q => absurd q (by decide), fun _ => ⟨fun q => absurd q (by decide), fun _ => ⟨fun _ => hK, fun q => absurd rfl q⟩⟩⟩
  · refine ⟨fun q => absurd q (by decide), fun _ => ⟨fun q => absurd q (by decide), fun _ => ⟨fun q => absurd q (by decide), fun _ => ⟨fun _ => ⟨fun q => ?_, fun q => ?_⟩, fun q => absurd rfl q⟩⟩⟩⟩
    · have e : ¬ hr % 4 = 0 := fun z => q (by rw [z]; rfl)
      have e2 : takeN 4 hr = 0 := by simp [takeN, e]
      rw [e2] at hK
      exact hK
    · have e : hr % 4 = 0 := (nI_eqL 0 (by omega) (by decide)).mp q
      have e2 : takeN 4 hr = 1 := by simp [takeN, e]
      rw [e2] at hK
      exact hK
  · exact ⟨fun q => absurd q (by decide), fun _ => ⟨fun q => absurd q (by decide), fun _ => ⟨fun q => absurd q (by decide), fun _ => ⟨fun q => absurd q (by decide), fun _ => hK⟩⟩⟩⟩
theorem c_X2_dampest {c : Nat} (hc : c ≤ 5) (hK : K (nI (damp c)) I X) : CI g (d + 1) iX2_dampest [.int (nI c)] I X K := by
  refine en_X2_dampest ?_
  rcases (show c = 0 ∨ c = 1 ∨ c = 2 ∨ c = 3 ∨ c = 4 ∨ c = 5 by omega) with rfl | rfl | rfl | rfl | rfl | rfl
  · exact ⟨fun q => absurd q (by decide), fun _ => ⟨fun q => absurd q (by decide), fun _ => hK⟩⟩
  · exact ⟨fun q => absurd q (by decide), fun _ => ⟨fun q => absurd q (by decide), fun _ => hK⟩⟩
  · exact ⟨fun _ => hK, fun q => absurd rfl q⟩
  · exact ⟨fun q => absurd q (by decide), fun _ => ⟨fun q => absurd q (by decide), fun _ => hK⟩⟩
  · exact ⟨fun q => absurd q (by decide), fun _ => ⟨fun q => absurd q (by decide), fun _ => hK⟩⟩
  · exact ⟨fun q => absurd q (by decide), fun _ => ⟨fun _ => hK, fun q => absurd rfl q⟩⟩
variable {a : Nat}
theorem lane24 (h66 : a ≠ 66) : laneOf a = 24 := by unfold laneOf; rw [if_neg h66]
theorem c_X1_burns {j : Nat} (hj : j < 32) (ha : a ∈ fireL) (h66 : a ≠ 66) (he : iE I n w kd nd wd) (hf : FR I a n F) (hT : j < n ∧ F (10 + j) = 1 → K 1 I X) (hF : ¬ (j < n ∧ F (10 + j) = 1) → K 0 I X) : CI g (d + 2) iX1_burns [rf g a, .int (nI j)] I X K := by
  have hn := he.1.2.2
  have hb := bset_lt F n
  have hb2 : (2 : Nat) ^ n ≤ 2 ^ 5 := Nat.pow_le_pow_right (by decide) hn
  refine en_X1_burns ha ?_
  rw [lane24 h66]
  refine c_X3_hasJ (by omega) he (fun q => t_one ?_) (fun q => t_zero (hF (fun z => q z.1)))
  rw [hf.2.1, bit_at (by omega) hj, bset_bit]
  by_cases hc : j < n ∧ F (10 + j) = 1
  · rw [if_pos hc]; exact ⟨fun q => absurd q (by decide), fun _ => hT hc⟩
  · rw [if_neg hc]; exact ⟨fun _ => hF hc, fun q => absurd rfl q⟩
theorem nle0 {x : Nat} (hx : x < 2 ^ 31) : nI x ≤ 0 ↔ x = 0 := by
  rw [i_le, nI_toInt hx, i_t0]; omega
theorem c_X1_catches {j : Nat} (hj : j < 32) (ha : a ∈ fireL) (h66 : a ≠ 66) (he : iE I n w kd nd wd) (hf : FR I a n F) (hw : WF n F m) (hT : j < n ∧ catchN kd F j → K 1 I X) (hF : ¬ (j < n ∧ catchN kd F j) → K 0 I X) : CI g (d + 2) iX1_catches [rf g a, .int (nI j)] I X K := by
  have hn := he.1.2.2
  refine en_X1_catches ha ?_
  rw [lane24 h66]
  refine c_X3_hasJ (by omega) he (fun q => t_one ?_) (fun q => t_zero (hF (fun z => q z.1)))
  obtain ⟨w1, w2⟩ := hf.1 j q
  obtain ⟨v1, v2, v3, v4⟩ := hw.1 j q
  have hk := he.2.2.1 j q
  rw [nI_clamp (by omega), w1, w2, show I (24 + 1) j = I 25 j from rfl, hk.1, nle0 (by omega)]
  refine ⟨vp_in_nI (by omega) (by decide), fun c => hF (fun z => by have := z.2.1; omega), fun c => ⟨vp_in_nI (by omega) (by decide), vp_in_nI (by omega) (by decide), c_X2_dampest hk.2.2 ?_⟩⟩
  have hd := damp_le (kd j)
  refine ⟨fun c2 => hF (fun z => ?_), fun c2 => hT ⟨q, by omega, ?_⟩⟩
  · have := z.2.2
    have := (nI_ltI (by omega) (by omega)).mp c2
    omega
  · exact Nat.not_lt.mp (fun z => c2 ((nI_ltI (by omega) (by omega)).mpr z))
theorem abs_diff {h k : Nat} (hh : h < 1000) (hk : k < 1000) : (if 0 ≤ nI h - nI k then nI h - nI k else 0 - (nI h - nI k) : Int32) = nI (adiff h k) := by
  have e : (nI h - nI k).toInt = (h : Int) - k := pk_sub_toInt (by omega) (by omega)
  unfold adiff
  by_cases c : h ≤ k
  · rw [if_pos c]
    by_cases c2 : h = k
    · subst c2
      rw [if_pos (by rw [i_le, e, i_t0]; omega), pk_sub (Nat.le_refl h)]
    · rw [if_neg (by rw [i_le, e, i_t0]; omega), i_eq, Int32.toInt_sub, e, nI_toInt (by omega), i_t0, Int.bmod_eq_of_le (by omega) (by omega)]
      omega
  · rw [if_neg c, if_pos (by rw [i_le, e, i_t0]; omega), pk_sub (by omega)]
theorem c_X1_canCarry {h k : Nat} (hh : h < 32) (hk : k < 32) (ha : a ∈ fireL) (h66 : a ≠ 66) (he : iE I n w kd nd wd) (hf : FR I a n F) (hw : WF n F m) (hm : m ≤ 900) (hT : canN n w kd wd F h k → K 1 I X) (hF : ¬ canN n w kd wd F h k → K 0 I X) : CI g (d + 3) iX1_canCarry [rf g a, .int (nI h), .int (nI k)] I X K := by
  obtain ⟨f1, f2, f3, f4, f5⟩ := id hf
  have h17 := hw.2.2.2.1
  refine en_X1_canCarry ha ?_
  rw [f5, lane24 h66]
  refine ⟨fun c => hF (fun z => c (by rw [z.1]; rfl)), fun c => ?_⟩
  have e17 : F 17 = 0 := (nI_eqL 0 (by omega) (by decide)).mp c
  refine c_X1_burns hh ha h66 he hf (fun b1 => t_one ?_) (fun b1 => t_zero (hF (fun z => b1 z.2.1)))
  refine c_X3_hasJ (by omega) he (fun b2 => t_one ?_) (fun b2 => t_zero (hF (fun z => b2 z.2.2.1.1)))
  refine c_X1_burns hk ha h66 he hf (fun b3 => t_one' (hF (fun z => z.2.2.1.2 b3.2))) (fun b3 => t_zero' ?_)
  have h15 := hw.2.1
  rw [f3]
  refine c_X3_windAt (by omega) he (by omega) ?_
  have hwl : F 15 % w < w := Nat.mod_lt _ (he.2.1.2.2.2 (by omega))
  have hwd := (he.2.2.2.2 _ hwl).2.2
  rw [abs_diff (by omega) (by omega)]
  have e3 : (3 : Int32) - nI (wd (F 15 % w)) = nI (3 - wd (F 15 % w)) := pk_sub (a := 3) (by omega)
  have hq : adiff h k ≤ 64 := by unfold adiff; split <;> omega
  rw [e3, nI_ltI (by omega) (by omega)]
  refine ⟨fun c2 => hF (fun z => by have := z.2.2.2.1; omega), fun c2 => ?_⟩
  refine c_X1_catches hk ha h66 he hf hw (fun b4 => t_one (hT ⟨e17, b1, ⟨b2, fun z => b3 ⟨b2, z⟩⟩, by omega, b4.2⟩)) (fun b4 => t_zero (hF (fun z => b4 ⟨b2, z.2.2.2.2⟩)))
def mvN (n w : Nat) (kd wd : Nat → Nat) (F : Nat → Nat) (mv : Nat) : Prop := mv < 36 ∧ canN n w kd wd F (mv / 6) (mv % 6)
theorem c_X1_canMove {mv : Nat} (hmv : mv ≤ 36) (ha : a ∈ fireL) (h66 : a ≠ 66) (he : iE I n w kd nd wd) (hf : FR I a n F) (hw : WF n F m) (hm : m ≤ 900) (hT : mvN n w kd wd F mv → K 1 I X) (hF : ¬ mvN n w kd wd F mv → K 0 I X) : CI g (d + 4) iX1_canMove [rf g a, .int (nI mv)] I X K := by
  refine en_X1_canMove ha ⟨fun c => absurd c (nI_pos (by omega)), fun _ => ?_⟩
  have e36 : (36 : Int32) ≤ nI mv ↔ 36 ≤ mv := nI_leI (a := 36) (by decide) (by omega)
  rw [e36, i_rem6 (by omega), i_div6 (by omega)]
  refine ⟨fun c => hF (fun z => by have := z.1; omega), fun c => ?_⟩
  exact c_X1_canCarry (by omega) (by omega) ha h66 he hf hw hm (fun q => t_one (hT ⟨by omega, q⟩)) (fun q => t_zero (hF (fun z => q z.2)))
end T48
