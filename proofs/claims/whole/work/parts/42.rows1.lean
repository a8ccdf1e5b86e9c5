/-! ===== rows and texts: helpers ===== -/
section T42
variable {g : OG} {d : Nat} {I : IT} {X : XT} {K : Int32 → IT → XT → Prop} {KV : IT → XT → Prop}
theorem c_X10_isText {r : Int32} (hT : vp_in r 4 → K 1 I X) (hF : ¬ vp_in r 4 → K 0 I X) : CI g (d + 1) iX10_isText [.int r] I X K := by
  refine en_X10_isText ⟨fun c => hF ?_, fun c => ⟨fun c2 => hF ?_, fun c2 => hT ?_⟩⟩ <;> simp only [vp_in_iff, i_lt, i_le, Int32.reduceToInt] at * <;> omega
theorem c_X10_isKeepingPlace {r : Int32} (hT : vp_in r 3 → K 1 I X) (hF : ¬ vp_in r 3 → K 0 I X) : CI g (d + 1) iX10_isKeepingPlace [.int r] I X K := by
  refine en_X10_isKeepingPlace ⟨fun c => hF ?_, fun c => ⟨fun c2 => hF ?_, fun c2 => hT ?_⟩⟩ <;> simp only [vp_in_iff, i_lt, i_le, Int32.reduceToInt] at * <;> omega
theorem c_X10_isAhead {r : Int32} (hT : vp_in r 5 → K 1 I X) (hF : ¬ vp_in r 5 → K 0 I X) : CI g (d + 1) iX10_isAhead [.int r] I X K := by
  refine en_X10_isAhead ⟨fun c => hF ?_, fun c => ⟨fun c2 => hF ?_, fun c2 => hT ?_⟩⟩ <;> simp only [vp_in_iff, i_lt, i_le, Int32.reduceToInt] at * <;> omega
theorem c_X11_isText {r : Int32} (hT : vp_in r 4 → K 1 I X) (hF : ¬ vp_in r 4 → K 0 I X) : CI g (d + 2) iX11_isText [.int r] I X K := by
  refine en_X11_isText (c_X11_in (fun c => b_one (hT ?_)) (fun c => b_zero (hF ?_))) <;> simp only [vp_in_iff, i_lt, i_le, Int32.reduceToInt] at * <;> omega
def fndC (I : IT) (f : Nat) : IT := set2 (set2 I 1 13 (nI f)) 128 f (I 128 f + 1)
def fndM (I : IT) (f : Nat) : IT := set2 (set2 I 129 0 (nI f)) 130 f (I 130 f + 1)
theorem c_X10_found {v : Int32} (f : Nat) (hv : v = nI f) (hf : 1 ≤ f ∧ f ≤ 5) (hK : K (-3) (fndC I f) X) : CI g (d + 1) iX10_found [rf g 1, .int v] I X K := by
  subst hv
  have ti := nI_toInt (n := f) (by omega)
  have tc := nI_clamp (n := f) (by omega)
  have hi : vp_in (nI f) 6 := vp_in_nI (by omega) (by decide)
  refine en_X10_found ⟨fun c => ?_, fun c => ⟨fun c2 => ?_, fun c2 I1 e1 => ⟨hi, hi, fun I4 e4 => ?_⟩⟩⟩
  · simp only [i_lt, ti, Int32.reduceToInt] at c; omega
  · simp only [i_lt, ti, Int32.reduceToInt] at c2; omega
  · subst e1; subst e4
    rw [tc]
    have e : set2 I 1 13 (nI f) 128 f = I 128 f := by rw [set2_at, if_neg (by omega)]
    rw [e]
    exact hK
theorem c_X11_meets {v : Int32} (f : Nat) (hv : v = nI f) (hf : 1 ≤ f ∧ f ≤ 5) (hK : K (-3) (fndM I f) X) : CI g (d + 1) iX11_meets [rf g 129, .int v] I X K := by
  subst hv
  have tc := nI_clamp (n := f) (by omega)
  have hi : vp_in (nI f) 6 := vp_in_nI (by omega) (by decide)
  refine en_X11_meets (fun I1 e1 => ⟨hi, hi, fun I4 e4 => ?_⟩)
  subst e1; subst e4
  rw [tc]
  have e : set2 I 129 0 (nI f) 130 f = I 130 f := by rw [set2_at, if_neg (by omega)]
  rw [e]
  exact hK
theorem inv_found {f : Nat} (hf : 1 ≤ f ∧ f ≤ 5) (h : Inv I X) : Inv (fndM (fndC I f) f) X := by
  obtain ⟨h1, h2, h3, h4, h5, h6⟩ := h
  have hs : ∀ b k, ¬ ((b = 1 ∧ k = 13) ∨ (b = 129 ∧ k = 0) ∨ b = 128 ∨ b = 130) → fndM (fndC I f) f b k = I b k := by
    intro b k hb
    unfold fndM fndC
    simp only [set2_at]
    rw [if_neg (by omega), if_neg (by omega), if_neg (by omega), if_neg (by omega)]
  refine ⟨⟨?_, fun q hq => ?_⟩, h2.same (fun b k hb => hs b k (by omega)), h3, h4.same (fun b k hb => hs b k (by omega)), h5.same (fun b k hb => hs b k (by omega)), h6.same (fun b k hb => hs b k (by omega))⟩
  · unfold fndM fndC
    simp [set2_at]
  · have e := h1.2 q hq
    unfold fndM fndC
    simp only [set2_at]
    by_cases hqf : q = f
    · subst hqf
      simp [e]
    · simp [hqf, e]
theorem c_X7_isThere {a : Nat} (ha : a ∈ rowL) (hT : ¬ I a 1 < 0 → K 1 I X) (hF : I a 1 < 0 → K 0 I X) : CI g (d + 1) iX7_isThere [rf g a] I X K := en_X7_isThere ha ⟨hF, hT⟩
theorem c_X9_isThere {a : Nat} (ha : a ∈ textL) (hT : ¬ I a 1 < 0 → K 1 I X) (hF : I a 1 < 0 → K 0 I X) : CI g (d + 1) iX9_isThere [rf g a] I X K := en_X9_isThere ha ⟨hF, hT⟩
theorem vin_nI {x : Int32} {z : Nat} (hz : z < 2 ^ 31) : vp_in x z ↔ ¬ x < 0 ∧ ¬ nI z ≤ x := by
  have ti := nI_toInt hz
  simp only [vp_in_iff, i_lt, i_le, ti, Int32.reduceToInt]
  omega
theorem c_X7_has {a z : Nat} {i : Int32} (ha : a ∈ rowL) (hz : I a 1 = nI z) (hz2 : z ≤ 40) (hT : vp_in i z → K 1 I X) (hF : ¬ vp_in i z → K 0 I X) : CI g (d + 1) iX7_has [rf g a, .int i] I X K := by
  have hv := vin_nI (x := i) (z := z) (by omega)
  refine en_X7_has ha ⟨fun c => hF (fun q => (hv.mp q).1 c), fun c => ?_⟩
  rw [hz]
  exact ⟨fun c2 => hF (fun q => (hv.mp q).2 c2), fun c2 => hT (hv.mpr ⟨c, c2⟩)⟩
theorem c_X9_has {a z : Nat} {i : Int32} (ha : a ∈ textL) (hz : I a 1 = nI z) (hz2 : z ≤ 60) (hT : vp_in i z → K 1 I X) (hF : ¬ vp_in i z → K 0 I X) : CI g (d + 1) iX9_has [rf g a, .int i] I X K := by
  have hv := vin_nI (x := i) (z := z) (by omega)
  refine en_X9_has ha ⟨fun c => hF (fun q => (hv.mp q).1 c), fun c => ?_⟩
  rw [hz]
  exact ⟨fun c2 => hF (fun q => (hv.mp q).2 c2), fun c2 => hT (hv.mpr ⟨c, c2⟩)⟩
theorem vin_up {x : Int32} {z y : Nat} (h : vp_in x z) (hzy : z ≤ y) : vp_in x y := by
  simp only [vp_in_iff] at *; omega
theorem c_X7_get {a z : Nat} {i : Int32} (ha : a ∈ rowL) (hz : I a 1 = nI z) (hz2 : z ≤ 40) (hi : vp_in i z) (hK : K (I (a + 1) i.toNatClampNeg) I X) : CI g (d + 2) iX7_get [rf g a, .int i] I X K :=
  en_X7_get ha (c_X7_has ha hz hz2 (fun _ => t_one ⟨vin_up hi hz2, hK⟩) (fun q => absurd hi q))
theorem c_X9_get {a z : Nat} {i : Int32} (ha : a ∈ textL) (hz : I a 1 = nI z) (hz2 : z ≤ 60) (hT : vp_in i z → K (I (a + 1) i.toNatClampNeg) I X) (hF : ¬ vp_in i z → K 1000 I X) : CI g (d + 2) iX9_get [rf g a, .int i] I X K :=
  en_X9_get ha (c_X9_has ha hz hz2 (fun hi => t_one ⟨vin_up hi hz2, hT hi⟩) (fun q => t_zero (hF q)))
theorem c_X7_set {a z : Nat} {i v : Int32} (ha : a ∈ rowL) (hz : I a 1 = nI z) (hz2 : z ≤ 40) (hi : vp_in i z) (hK : KV (set2 I (a + 1) i.toNatClampNeg v) X) : CV g (d + 2) iX7_set [rf g a, .int i, .int v] I X KV :=
  en_X7_set ha (c_X7_has ha hz hz2 (fun _ => t_one ⟨vin_up hi hz2, fun I5 e => by subst e; exact hK⟩) (fun q => absurd hi q))
theorem c_X9_set {a z : Nat} {i v : Int32} (ha : a ∈ textL) (hz : I a 1 = nI z) (hz2 : z ≤ 60) (hi : vp_in i z) (hK : KV (set2 I (a + 1) i.toNatClampNeg v.toInt8.toInt32) X) : CV g (d + 2) iX9_set [rf g a, .int i, .int v] I X KV :=
  en_X9_set ha (c_X9_has ha hz hz2 (fun _ => t_one ⟨vin_up hi hz2, fun I5 e => by subst e; rw [nar_b]; exact hK⟩) (fun q => absurd hi q))
theorem lp_X7_begin {a z : Nat} (ha : a ∈ rowL) (hz : z ≤ 40) : ∀ (m i : Nat) (I : IT), i + m = z → (∀ k, k < i → I (a + 1) k = 0) →
    (∀ I', Same (fun b _ => b = a + 1) I I' → (∀ k, k < z → I' (a + 1) k = 0) → KV I' X) → SR g (d + 1) iX7_begin 18 [(0, rf g a), (1, .int (nI z)), (2, .int (nI i))] I X (qV KV) := by
  intro m
  induction m with
  | zero =>
    intro i I hi h0 hK
    exact rg_X7_begin_18 ha ⟨fun _ => hK I Same.rf (fun k hk => h0 k (by omega)), fun c => absurd (nI_le (by omega) (by omega)) c⟩
  | succ m ih =>
    intro i I hi h0 hK
    refine rg_X7_begin_18 ha ⟨fun c => absurd c (nI_ge (by omega) (by omega)), fun c => ⟨vp_in_nI (by omega) (by decide), fun I2 e2 x3 e3 => ?_⟩⟩
    subst e2; subst e3
    rw [nI_1, nI_clamp (by omega)]
    refine ih (i + 1) _ (by omega) (fun k hk => ?_) (fun I' hs h1 => hK I' (Same.trans (Same.set rfl) hs) h1)
    rw [set2_at]
    by_cases hki : k = i
    · rw [if_pos ⟨rfl, hki⟩]
    · rw [if_neg (fun q => hki q.2)]; exact h0 k (by omega)
theorem c_X7_begin {a z : Nat} {v : Int32} (ha : a ∈ rowL) (hv : v = nI z) (hz : z ≤ 40) (hK : ∀ I', Same (fun b k => (b = a ∧ k = 1) ∨ b = a + 1) I I' → I' a 1 = nI z → (∀ k, k < z → I' (a + 1) k = 0) → KV I' X) : CV g (d + 1) iX7_begin [rf g a, .int v] I X KV := by
  subst hv
  refine en_X7_begin ha ⟨fun c => absurd c (nI_pos (by omega)), fun _ => ⟨fun _ I1 e1 => ?_, fun c => absurd (show nI z ≤ nI 40 from nI_le hz (by decide)) c⟩⟩
  subst e1
  refine lp_X7_begin ha hz z 0 _ (by omega) (fun k hk => by omega) (fun I' hs h1 => hK I' (Same.trans (Same.set (Or.inl ⟨rfl, rfl⟩)) (hs.weak (fun b k hb => Or.inr hb))) ?_ h1)
  rw [hs a 1 (by omega), set2_at, if_pos ⟨rfl, rfl⟩]
theorem lp_X9_begin {a z : Nat} (ha : a ∈ textL) (hz : z ≤ 60) : ∀ (m i : Nat) (I : IT), i + m = z → (∀ k, k < i → I (a + 1) k = 32) →
    (∀ I', Same (fun b _ => b = a + 1) I I' → (∀ k, k < z → I' (a + 1) k = 32) → KV I' X) → SR g (d + 1) iX9_begin 18 [(0, rf g a), (1, .int (nI z)), (2, .int (nI i))] I X (qV KV) := by
  intro m
  induction m with
  | zero =>
    intro i I hi h0 hK
    exact rg_X9_begin_18 ha ⟨fun _ => hK I Same.rf (fun k hk => h0 k (by omega)), fun c => absurd (nI_le (by omega) (by omega)) c⟩
  | succ m ih =>
    intro i I hi h0 hK
    refine rg_X9_begin_18 ha ⟨fun c => absurd c (nI_ge (by omega) (by omega)), fun c => ⟨vp_in_nI (by omega) (by decide), fun I2 e2 x3 e3 => ?_⟩⟩
    subst e2; subst e3
    rw [nI_1, nI_clamp (by omega)]
    refine ih (i + 1) _ (by omega) (fun k hk => ?_) (fun I' hs h1 => hK I' (Same.trans (Same.set rfl) hs) h1)
    rw [set2_at]
    by_cases hki : k = i
    · rw [if_pos ⟨rfl, hki⟩]; decide
    · rw [if_neg (fun q => hki q.2)]; exact h0 k (by omega)
theorem c_X9_begin {a z : Nat} {v : Int32} (ha : a ∈ textL) (hv : v = nI z) (hz : z ≤ 60) (hK : ∀ I', Same (fun b k => (b = a ∧ k = 1) ∨ b = a + 1) I I' → I' a 1 = nI z → (∀ k, k < z → I' (a + 1) k = 32) → KV I' X) : CV g (d + 1) iX9_begin [rf g a, .int v] I X KV := by
  subst hv
  refine en_X9_begin ha ⟨fun c => absurd c (nI_pos (by omega)), fun _ => ⟨fun _ I1 e1 => ?_, fun c => absurd (show nI z ≤ nI 60 from nI_le hz (by decide)) c⟩⟩
  subst e1
  refine lp_X9_begin ha hz z 0 _ (by omega) (fun k hk => by omega) (fun I' hs h1 => hK I' (Same.trans (Same.set (Or.inl ⟨rfl, rfl⟩)) (hs.weak (fun b k hb => Or.inr hb))) ?_ h1)
  rw [hs a 1 (by omega), set2_at, if_pos ⟨rfl, rfl⟩]
end T42
