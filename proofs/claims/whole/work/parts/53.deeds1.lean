/-! ===== deeds: strike, carry, hour ===== -/
def SU (S : Nat → Nat → Nat) (D : Nat) (F : Nat → Nat) : Nat → Nat → Nat := fun i => if i = D + 1 then F else S i
theorem SU_eq (S : Nat → Nat → Nat) (D : Nat) (F : Nat → Nat) : SU S D F (D + 1) = F := by unfold SU; rw [if_pos rfl]
theorem SU_ne (S : Nat → Nat → Nat) (D : Nat) (F : Nat → Nat) {i : Nat} (h : i ≤ D) : SU S D F i = S i := by unfold SU; rw [if_neg (by omega)]
theorem FM0 {I : IT} {F : Nat → Nat} : FM I 0 F ↔ ∀ k, k < 18 → I 142 k = nI (F k) := by
  unfold FM
  exact ⟨fun h k hk => by have := h k hk; rwa [show 18 * 0 + k = k by omega] at this, fun h k hk => by rw [show 18 * 0 + k = k by omega]; exact h k hk⟩
theorem v16 : vp_in 16 216 := show vp_in (nI 16) 216 from vp_in_nI (by decide) (by decide)
theorem t16 : (16 : Int32).toNatClampNeg = 16 := by decide
section T53
variable {g : OG} {d : Nat} {I : IT} {X : XT} {K : Int32 → IT → XT → Prop} {KV : IT → XT → Prop}
variable {n w : Nat} {kd nd wd : Nat → Nat} {F : Nat → Nat} {m f a D : Nat} {dd : Nat → Nat} {S : Nat → Nat → Nat}
theorem c_X0_hasRoom {more : Nat} (hm : more ≤ 1000) (h3 : I 28 3 = nI D) (hD : D ≤ 40) (hT : D + more ≤ 40 → K 1 I X) (hF : ¬ D + more ≤ 40 → K 0 I X) : CI g (d + 1) iX0_hasRoom [rf g 28, .int (nI more)] I X K := by
  refine en_X0_hasRoom (by decide) ?_
  rw [h3, nI_add]
  have e : (40 : Int32) < nI (D + more) ↔ 40 < D + more := nI_ltI (a := 40) (by decide) (by omega)
  rw [e]
  exact ⟨fun c => hF (by omega), fun c => hT (by omega)⟩
/-- the village's Campaign does a deed -/
theorem c_X0_act {e : Nat} (hD : D < 40) (he : iE I n w kd nd wd) (hcc : iCC I 28 n D dd S) (hw : WF n (S D) D) (hd : dok n e) (hK : ∀ I', Same (fun b k => (b = 28 ∧ k = 3) ∨ b = 29 ∨ (33 ≤ b ∧ b ≤ 35)) I I' → iCC I' 28 n (D + 1) (mW dd D e) (SU S D (actN n kd (S D) e)) → KV I' X) : CV g (d + 5) iX0_act [rf g 28, .int (nI e)] I X KV := by
  obtain ⟨h1, h2, h3, h4⟩ := id hcc
  have hel : e < 100 := by unfold dok at hd; have := he.1.2.2; omega
  refine en_X0_act (by decide) ?_
  rw [h1, nI_clamp (by omega)]
  refine ⟨fun c => absurd c (nI_pos (by omega)), fun _ => ⟨fun c => absurd c (show ¬ nI 40 ≤ nI D from nI_ge (by omega) (by decide)), fun _ => ⟨vp_in_nI (by omega) (by decide), fun I2 e2 I3 e3 => ?_⟩⟩⟩
  have k3 : I2 28 3 = nI D := by rw [e2, set2_at, if_neg (by omega)]; exact h1
  rw [k3, nI_1] at e3
  have hs3 : Same (fun b k => (b = 28 ∧ k = 3) ∨ b = 29 ∨ (33 ≤ b ∧ b ≤ 35)) I I3 := by rw [e3, e2]; exact Same.step (Same.set (by omega)) (by omega)
  have he3 : iE I3 n w kd nd wd := he.same (fun b k hb => hs3 b k (by omega))
  have hf3 : FR I3 33 n (S D) := h4.same (fun b k hb => by rw [e3, set2_at, if_neg (by omega), e2, set2_at, if_neg (by omega)])
  refine c_X1_act (a := 33) hd (by decide) (by decide) he3 hf3 hw (by omega) (fun I4 hs4 hf4 => hK I4 ?_ ?_)
  · exact hs3.trans (hs4.weak (fun b k hb => by omega))
  · refine ⟨?_, fun i hi => ?_, ?_, ?_⟩
    · rw [hs4 28 3 (by omega), e3, set2_at, if_pos ⟨rfl, rfl⟩]
    · rw [hs4 (28 + 1) i (by omega), e3, set2_at, if_neg (by omega), e2, set2_at, mW_at]
      by_cases q : i = D
      · rw [if_pos ⟨rfl, q⟩, if_pos q]
      · rw [if_neg (fun zz => q zz.2), if_neg q]; exact h2 i (by omega)
    · rw [SU_ne _ _ _ (by omega)]
      exact h3.same (fun b k hb => by rw [hs4 b k (by omega), hs3 b k (by omega)])
    · rw [SU_eq]
      exact hf4
theorem lp_X11_remember (hD : D < 40) (I0 : IT) (h22 : I0 129 22 = nI D) (hK : ∀ I', Same (fun b k => (b = 129 ∧ k = 22) ∨ (b = 143 ∧ 18 * D ≤ k ∧ k < 18 * D + 18)) I0 I' → I' 129 22 = nI (D + 1) → (∀ k, k < 18 → I' 143 (18 * D + k) = I0 142 k) → KV I' X) : ∀ (q i : Nat) (I : IT), i + q = 18 → Same (fun b k => b = 143 ∧ 18 * D ≤ k ∧ k < 18 * D + 18) I0 I → (∀ k, k < i → I 143 (18 * D + k) = I0 142 k) →
    SR g (d + 1) iX11_remember 2 [(0, rf g 129), (1, .int (nI i))] I X (qV KV) := by
  intro q
  induction q with
  | zero =>
    intro i I hi hs h0
    obtain rfl : i = 18 := by omega
    refine rg_X11_remember_2 ⟨fun _ I1 e1 => ?_, fun c => absurd (by decide) c⟩
    rw [hs 129 22 (by omega), h22, nI_1] at e1
    subst e1
    refine hK _ ((hs.weak (fun b k hb => Or.inr hb)).trans (Same.set (Or.inl ⟨rfl, rfl⟩))) ?_ (fun k hk => ?_)
    · rw [set2_at, if_pos ⟨rfl, rfl⟩]
    · rw [set2_at, if_neg (by omega)]; exact h0 k hk
  | succ q ih =>
    intro i I hi hs h0
    refine rg_X11_remember_2 ⟨fun c => absurd c (show ¬ nI 18 ≤ nI i from nI_ge (by omega) (by omega)), fun _ => ?_⟩
    rw [hs 129 22 (by omega), h22, ix18, nI_clamp (n := 18 * D + i) (by omega), nI_clamp (n := i) (by omega), nI_1]
    refine ⟨vp_in_nI (by omega) (by decide), vp_in_nI (by omega) (by decide), fun I4 e4 x5 e5 => ?_⟩
    subst e4; subst e5
    refine ih (i + 1) _ (by omega) (hs.trans (Same.set (by omega))) (fun k hk => ?_)
    rw [set2_at]
    by_cases qk : k = i
    · rw [if_pos ⟨rfl, by omega⟩, hs 142 i (by omega), qk]
    · rw [if_neg (by omega)]; exact h0 k (by omega)
theorem c_X11_remember (hD : D < 40) (h22 : I 129 22 = nI D) (hK : ∀ I', Same (fun b k => (b = 129 ∧ k = 22) ∨ (b = 143 ∧ 18 * D ≤ k ∧ k < 18 * D + 18)) I I' → I' 129 22 = nI (D + 1) → (∀ k, k < 18 → I' 143 (18 * D + k) = I 142 k) → KV I' X) : CV g (d + 1) iX11_remember [rf g 129] I X KV :=
  en_X11_remember (lp_X11_remember hD I h22 hK 18 0 I (by omega) Same.rf (fun k hk => by omega))
theorem iC.step {e : Nat} (h : iC n kd D dd S) (hD : D < 40) (hd : dok n e) (hw : WF n (actN n kd (S D) e) (D + 1)) : iC n kd (D + 1) (mW dd D e) (SU S D (actN n kd (S D) e)) := by
  obtain ⟨h1, h2, h3, h4, h5, h6⟩ := h
  refine ⟨by omega, fun i hi => ?_, fun i hi => ?_, ?_, ?_, ?_⟩
  · rw [mW_at]
    by_cases q : i = D
    · subst q
      rw [if_pos rfl, SU_eq, SU_ne _ _ _ (Nat.le_refl i)]
      exact ⟨rfl, hd⟩
    · rw [if_neg q, SU_ne _ _ _ (by omega), SU_ne _ _ _ (by omega)]
      exact h2 i (by omega)
  · by_cases q : i = D + 1
    · subst q; rw [SU_eq]; exact hw
    · rw [SU_ne _ _ _ (by omega)]; exact h3 i (by omega)
  · rw [SU_ne _ _ _ (by omega)]; exact h4
  · rw [SU_ne _ _ _ (by omega)]; exact h5
  · rw [SU_ne _ _ _ (by omega)]; exact h6
/-- both sides have done a deed -/
theorem deed_G {I' : IT} {e : Nat} (hE : iE I n w kd nd wd) (hV : iV I n kd D dd S) (hK : iK I n kd) (hD : D < 40) (hd : dok n e) (hw : WF n (actN n kd (S D) e) (D + 1))
    (hs : Same (fun b k => (b = 28 ∧ k = 3) ∨ b = 29 ∨ (33 ≤ b ∧ b ≤ 35) ∨ (b = 129 ∧ k = 22) ∨ (b = 142 ∧ k < 18) ∨ (b = 143 ∧ 18 * D ≤ k ∧ k < 18 * D + 18)) I I') (cc : iCC I' 28 n (D + 1) (mW dd D e) (SU S D (actN n kd (S D) e)))
    (m1 : I' 129 22 = nI (D + 1)) (m2 : ∀ k, k < 18 → I' 142 k = nI (actN n kd (S D) e k)) (m3 : ∀ k, k < 18 → I' 143 (18 * D + k) = I 142 k) :
    iE I' n w kd nd wd ∧ iV I' n kd (D + 1) (mW dd D e) (SU S D (actN n kd (S D) e)) ∧ iK I' n kd := by
  obtain ⟨v1, v2, v3, v4, v5, v6, v7⟩ := hV
  refine ⟨hE.same (fun b k hb => hs b k (by omega)), ⟨v1.step hD hd hw, cc, fun h0 => by rw [hs 28 4 (by omega)]; exact v3 h0, m1, fun k hk => ?_, fun k hk => ?_, fun i hi k hk => ?_⟩, hK.same (fun b k hb => hs b k (by omega))⟩
  · rw [SU_ne _ _ _ (by omega), hs 141 k (by omega)]; exact v5 k hk
  · rw [SU_eq]; exact m2 k hk
  · by_cases q : i = D
    · subst q
      rw [SU_ne _ _ _ (Nat.le_refl i), m3 k hk]; exact v6 k hk
    · rw [SU_ne _ _ _ (by omega), hs 143 _ (by omega)]; exact v7 i (by omega) k hk
theorem deed_Inv {I' : IT} {e : Nat} (h : Inv I X) (hE : iE I n w kd nd wd) (hV : iV I n kd D dd S) (hK : iK I n kd) (hD : D < 40) (hd : dok n e) (hw : WF n (actN n kd (S D) e) (D + 1))
    (hs : Same (fun b k => (b = 28 ∧ k = 3) ∨ b = 29 ∨ (33 ≤ b ∧ b ≤ 35) ∨ (b = 129 ∧ k = 22) ∨ (b = 142 ∧ k < 18) ∨ (b = 143 ∧ 18 * D ≤ k ∧ k < 18 * D + 18)) I I') (cc : iCC I' 28 n (D + 1) (mW dd D e) (SU S D (actN n kd (S D) e)))
    (m1 : I' 129 22 = nI (D + 1)) (m2 : ∀ k, k < 18 → I' 142 k = nI (actN n kd (S D) e k)) (m3 : ∀ k, k < 18 → I' 143 (18 * D + k) = I 142 k) : Inv I' X := by
  obtain ⟨h1, h2, h3, h4, h5, -⟩ := h
  obtain ⟨a1, a2, a3⟩ := deed_G hE hV hK hD hd hw hs cc m1 m2 m3
  exact ⟨h1.same (fun b k hb => hs b k (by omega)), h2.same (fun b k hb => hs b k (by omega)), h3, h4.same (fun b k hb => hs b k (by omega)), h5.same (fun b k hb => hs b k (by omega)), _, _, _, _, _, _, _, _, a1, a2, a3⟩
theorem c_X1_canStrike {j : Nat} (hj : j < 32) (ha : a ∈ fireL) (h66 : a ≠ 66) (he : iE I n w kd nd wd) (hf : FR I a n F) (hw : WF n F m) (hT : F 16 = 0 ∧ j < n ∧ catchN kd F j → K 1 I X) (hF : ¬ (F 16 = 0 ∧ j < n ∧ catchN kd F j) → K 0 I X) : CI g (d + 3) iX1_canStrike [rf g a, .int (nI j)] I X K := by
  have h16 := hw.2.2.1
  have e16 : nI (F 16) = 0 ↔ F 16 = 0 := nI_eqL 0 (by omega) (by decide)
  refine en_X1_canStrike ha ?_
  rw [hf.2.2.2.1, e16]
  refine ⟨fun c => ?_, fun c => ?_⟩
  · first
      | exact hF (fun z => c z.1)
      | exact c_X1_catches hj ha h66 he hf hw (fun q => t_one (hT ⟨c, q⟩)) (fun q => t_zero (hF (fun z => q z.2)))
  · first
      | exact hF (fun z => c z.1)
      | exact c_X1_catches hj ha h66 he hf hw (fun q => t_one (hT ⟨c, q⟩)) (fun q => t_zero (hF (fun z => q z.2)))
theorem op_strike {v : Int32} (h : Inv I X) : PairI g (d + 6) iX10_strike iX11_strike [.int v] I X := by
  obtain ⟨n, w, kd, nd, wd, D, dd, S, hE, hV, hK⟩ := h.2.2.2.2.2
  have hn := hE.1.2.2
  obtain ⟨v1, v2, v3, v4, v5, v6, v7⟩ := id hV
  have hD := v1.1
  have hw := v1.2.2.1 D (Nat.le_refl D)
  have hF0 : FM I 0 (S D) := FM0.mpr v6
  have h16 := hw.2.2.1
  have e16 : nI (S D 16) = 1 ↔ S D 16 = 1 := nI_eqL 1 (by omega) (by decide)
  refine en_X10_strike (c_X3_has hE (fun q => t_one' ?_) (fun q => t_zero' (en_X11_strike (c_X11_isHouse hE (fun z => absurd z q) (fun _ => t_zero' ⟨rfl, h⟩)))))
  obtain ⟨j, hj, rfl⟩ := vp_in_of q (by omega)
  refine c_X1_canStrike (a := 33) (by omega) (by decide) (by decide) hE v2.2.2.2 hw (fun q1 => t_one' ?_) (fun q1 => t_zero' ?_)
  · refine c_X0_hasRoom (more := 1) (by decide) v2.1 hD (fun q2 => t_one' ?_) (fun q2 => t_zero' ?_)
    · rw [show (40 : Int32) + nI j = nI (40 + j) from nI_add 40 j]
      have hdk : dok n (40 + j) := Or.inr (Or.inl ⟨by omega, by omega⟩)
      refine c_X0_act (by omega) hE v2 hw hdk (fun I1 hs1 cc => ?_)
      have hE1 : iE I1 n w kd nd wd := hE.same (fun b k hb => hs1 b k (by omega))
      have hF1 : FM I1 0 (S D) := FM0.mpr (fun k hk => by rw [hs1 142 k (by omega)]; exact v6 k hk)
      refine en_X11_strike (c_X11_isHouse hE1 (fun _ => t_one' ?_) (fun z => absurd q z))
      rw [t16, FM0.mp hF1 16 (by omega), e16]
      refine ⟨v16, fun z => by have := q1.1; omega, fun _ => c_X11_isCatching (f := 0) (by decide) hj hE1 hF1 hw (fun _ => t_one' ?_) (fun z => absurd q1.2.2 z)⟩
      have e22 : I1 129 22 = nI D := by rw [hs1 129 22 (by omega)]; exact v4
      have e40 : nI D = 40 ↔ D = 40 := nI_eqL 40 (by omega) (by decide)
      rw [e22, e40]
      refine ⟨fun _ => c_X11_remember (by omega) e22 (fun I2 hs2 r1 r2 => ?_), fun z => by omega⟩
      rw [show (10 : Int32) + nI j = nI (10 + j) from nI_add 10 j, nI_clamp (by omega)]
      refine ⟨v16, fun I3 e3 => ⟨vp_in_nI (by omega) (by decide), fun I4 e4 => ⟨rfl, ?_⟩⟩⟩
      have hact : actN n kd (S D) (40 + j) = lightN (S D) j := by unfold actN; rw [if_pos (by omega), show 40 + j - 40 = j by omega]
      have hF2 : FM I4 0 (lightN (S D) j) := by
        have a1 : FM I2 0 (S D) := FM0.mpr (fun k hk => by rw [hs2 142 k (by omega)]; exact FM0.mp hF1 k hk)
        have a2 := FM.set1 (k := 16) (v := 1) (by omega) a1
        have a3 := FM.set1 (k := 10 + j) (v := 1) (by omega) a2
        rw [show 18 * 0 + 16 = 16 by omega, show 18 * 0 + (10 + j) = 10 + j by omega] at a3
        subst e3; subst e4
        exact a3
      have hs24 : Same (fun b k => b = 142 ∧ k < 18) I2 I4 := by rw [e4, e3]; exact Same.step (Same.set (by omega)) (by omega)
      have hs' : Same (fun b k => (b = 28 ∧ k = 3) ∨ b = 29 ∨ (33 ≤ b ∧ b ≤ 35) ∨ (b = 129 ∧ k = 22) ∨ (b = 142 ∧ k < 18) ∨ (b = 143 ∧ 18 * D ≤ k ∧ k < 18 * D + 18)) I I4 := (hs1.weak (fun b k hb => by omega)).trans ((hs2.weak (fun b k hb => by omega)).trans (hs24.weak (fun b k hb => by omega)))
      refine deed_Inv (e := 40 + j) h hE hV hK (by omega) hdk ?_ hs' ?_ ?_ ?_ ?_
      · rw [hact]
        have := hw.light hn hj q1.2.2.1
        exact ⟨this.1, Nat.le_succ_of_le this.2.1, this.2.2⟩
      · exact cc.same (fun b k hb => by rw [hs24 b k (by omega), hs2 b k (by omega)])
      · rw [hs24 129 22 (by omega)]; exact r1
      · rw [hact]; exact FM0.mp hF2
      · intro k hk
        rw [hs24 143 _ (by omega), r2 k hk, hs1 142 k (by omega)]
    · refine en_X11_strike (c_X11_isHouse hE (fun _ => t_one' ?_) (fun z => absurd q z))
      rw [t16, v6 16 (by omega), e16]
      refine ⟨v16, fun z => by have := q1.1; omega, fun _ => c_X11_isCatching (f := 0) (by decide) hj hE hF0 hw (fun _ => t_one' ?_) (fun z => absurd q1.2.2 z)⟩
      have e40 : nI D = 40 ↔ D = 40 := nI_eqL 40 (by omega) (by decide)
      rw [v4, e40]
      exact ⟨fun z => by omega, fun _ => ⟨rfl, h⟩⟩
  · refine en_X11_strike (c_X11_isHouse hE (fun _ => t_one' ?_) (fun z => absurd q z))
    rw [t16, v6 16 (by omega), e16]
    refine ⟨v16, fun _ => ⟨rfl, h⟩, fun z => c_X11_isCatching (f := 0) (by decide) hj hE hF0 hw (fun z2 => absurd ⟨by omega, hj, z2⟩ q1) (fun _ => t_zero' ⟨rfl, h⟩)⟩
theorem ok36 : dok n 36 := Or.inl rfl
theorem c_X11_alive (hE : iE I n w kd nd wd) (hF0 : FM I 0 F) (hw : WF n F m) (hK : K (nI (pop (bset F n))) I X) : CI g (d + 2) iX11_burning [rf g 129, .int 0] I X (fun r14 I15 X16 => CI g (d + 2) iX11_bits [.int r14] I15 X16 (fun r17 I18 X19 => K r17 I18 X19)) := by
  have hbl := bset_lt F n
  have hb2 : (2 : Nat) ^ n ≤ 2 ^ 5 := Nat.pow_le_pow_right (by decide) hE.1.2.2
  exact c_X11_burning (f := 0) (by decide) hE hF0 hw (c_X11_bits (by omega) hK)
theorem op_hour (h : Inv I X) : PairI g (d + 6) iX10_hour iX11_hour [] I X := by
  obtain ⟨n, w, kd, nd, wd, D, dd, S, hE, hV, hK⟩ := h.2.2.2.2.2
  have hn := hE.1.2.2
  obtain ⟨v1, v2, v3, v4, v5, v6, v7⟩ := id hV
  have hD := v1.1
  have hw := v1.2.2.1 D (Nat.le_refl D)
  have e10 : nI n = 0 ↔ n = 0 := nI_eqL 0 (by omega) (by decide)
  have e40 : nI D = 40 ↔ D = 40 := nI_eqL 40 (by omega) (by decide)
  refine en_X10_hour (c_X3_isEmpty hE (fun q => t_one ?_) (fun q => t_zero ?_))
  · refine en_X11_hour ?_
    rw [hE.1.2.1, e10]
    exact ⟨fun z => absurd q z, fun _ => ⟨rfl, h⟩⟩
  · refine c_X0_hasRoom (more := 1) (by decide) v2.1 hD (fun q2 => t_one' ?_) (fun q2 => t_zero' ?_)
    · refine c_X0_act (e := 36) (by omega) hE v2 hw ok36 (fun I1 hs1 cc => ?_)
      have hE1 : iE I1 n w kd nd wd := hE.same (fun b k hb => hs1 b k (by omega))
      have hF1 : FM I1 0 (S D) := FM0.mpr (fun k hk => by rw [hs1 142 k (by omega)]; exact v6 k hk)
      have hact : actN n kd (S D) 36 = passN n kd (S D) := by unfold actN; rw [if_neg (by omega), if_pos rfl]
      have ccf : FR I1 33 n (passN n kd (S D)) := by have := cc.2.2.2; rw [SU_eq, hact] at this; exact this
      refine c_X1_alight (a := 33) (by decide) hn ccf ?_
      refine en_X11_hour ?_
      have e22 : I1 129 22 = nI D := by rw [hs1 129 22 (by omega)]; exact v4
      rw [hE1.1.2.1, e10, e22, e40]
      refine ⟨fun _ => ⟨fun _ => c_X11_remember (by omega) e22 (fun I2 hs2 r1 r2 => ?_), fun z => by omega⟩, fun z => by omega⟩
      have hE2 : iE I2 n w kd nd wd := hE1.same (fun b k hb => hs2 b k (by omega))
      have hF2 : FM I2 0 (S D) := FM0.mpr (fun k hk => by rw [hs2 142 k (by omega)]; exact FM0.mp hF1 k hk)
      refine c_X11_passes (f := 0) (by decide) hE2 hF2 hw (by omega) (fun I3 hs3 hF3 => ?_)
      refine c_X11_alive (hE2.frame hs3) hF3 (hw.pass hn (by omega)) ⟨rfl, ?_⟩
      have hs' : Same (fun b k => (b = 28 ∧ k = 3) ∨ b = 29 ∨ (33 ≤ b ∧ b ≤ 35) ∨ (b = 129 ∧ k = 22) ∨ (b = 142 ∧ k < 18) ∨ (b = 143 ∧ 18 * D ≤ k ∧ k < 18 * D + 18)) I I3 := (hs1.weak (fun b k hb => by omega)).trans ((hs2.weak (fun b k hb => by omega)).trans (hs3.weak (fun b k hb => by omega)))
      refine deed_Inv (e := 36) h hE hV hK (by omega) ok36 ?_ hs' ?_ ?_ ?_ ?_
      · rw [hact]; exact hw.pass hn (by omega)
      · exact cc.same (fun b k hb => by rw [hs3 b k (by omega), hs2 b k (by omega)])
      · rw [hs3 129 22 (by omega)]; exact r1
      · rw [hact]; exact FM0.mp hF3
      · intro k hk
        rw [hs3 143 _ (by omega), r2 k hk, hs1 142 k (by omega)]
    · refine en_X11_hour ?_
      rw [hE.1.2.1, e10, v4, e40]
      exact ⟨fun _ => ⟨fun z => by omega, fun _ => ⟨rfl, h⟩⟩, fun z => by omega⟩
theorem op_carry {u v : Int32} (h : Inv I X) : PairI g (d + 6) iX10_carry iX11_carry [.int u, .int v] I X := by
  obtain ⟨n, w, kd, nd, wd, D, dd, S, hE, hV, hK⟩ := h.2.2.2.2.2
  have hn := hE.1.2.2
  obtain ⟨v1, v2, v3, v4, v5, v6, v7⟩ := id hV
  have hD := v1.1
  have hw := v1.2.2.1 D (Nat.le_refl D)
  have hF0 : FM I 0 (S D) := FM0.mpr v6
  have e40 : nI D = 40 ↔ D = 40 := nI_eqL 40 (by omega) (by decide)
  refine en_X10_carry (c_X3_has hE (fun q => t_one ?_) (fun q => t_zero (en_X11_carry (c_X11_isHouse hE (fun z => absurd z q) (fun _ => t_zero ⟨rfl, h⟩)))))
  refine c_X3_has hE (fun p => t_one ?_) (fun p => t_zero (en_X11_carry (c_X11_isHouse hE (fun _ => t_one (c_X11_isHouse hE (fun z => absurd z p) (fun _ => t_zero ⟨rfl, h⟩))) (fun z => absurd q z))))
  obtain ⟨a, ha, rfl⟩ := vp_in_of q (by omega)
  obtain ⟨b, hb, rfl⟩ := vp_in_of p (by omega)
  refine ⟨fun c0 => ?_, fun c0 => en_X11_carry (c_X11_isHouse hE (fun _ => t_one (c_X11_isHouse hE (fun _ => t_one ⟨fun z => absurd c0 z, fun _ => ⟨rfl, h⟩⟩) (fun z => absurd p z))) (fun z => absurd q z))⟩
  refine c_X1_canCarry (a := 33) (by omega) (by omega) (by decide) (by decide) hE v2.2.2.2 hw (by omega) (fun q1 => t_one' ?_) (fun q1 => t_zero' ?_)
  · refine c_X0_hasRoom (more := 1) (by decide) v2.1 hD (fun q2 => t_one' ?_) (fun q2 => t_zero' ?_)
    · have e6 : (6 : Int32) * nI a + nI b = nI (6 * a + b) := by show nI 6 * nI a + nI b = _; rw [pk_mul, nI_add]
      rw [e6]
      have hm6 : (6 * a + b) % 6 = b := by omega
      have hdk : dok n (6 * a + b) := Or.inr (Or.inr ⟨by omega, by omega⟩)
      refine c_X0_act (by omega) hE v2 hw hdk (fun I1 hs1 cc => ?_)
      have hE1 : iE I1 n w kd nd wd := hE.same (fun b k hb => hs1 b k (by omega))
      have hF1 : FM I1 0 (S D) := FM0.mpr (fun k hk => by rw [hs1 142 k (by omega)]; exact v6 k hk)
      have hact : actN n kd (S D) (6 * a + b) = carryN (S D) b := by unfold actN; rw [if_neg (by omega), if_neg (by omega), hm6]
      have ccf : FR I1 33 n (carryN (S D) b) := by have := cc.2.2.2; rw [SU_eq, hact] at this; exact this
      refine c_X1_alight (a := 33) (by decide) hn ccf ?_
      have e22 : I1 129 22 = nI D := by rw [hs1 129 22 (by omega)]; exact v4
      refine en_X11_carry (c_X11_isHouse hE1 (fun _ => t_one (c_X11_isHouse hE1 (fun _ => t_one ⟨fun _ => ?_, fun z => absurd z c0⟩) (fun z => absurd p z))) (fun z => absurd q z))
      refine c_X11_canCarry (f := 0) (by decide) ha hb hE1 hF1 hw (by omega) (fun _ => t_one' ?_) (fun z => absurd q1 z)
      rw [e22, e40]
      refine ⟨fun _ => c_X11_remember (by omega) e22 (fun I2 hs2 r1 r2 => ?_), fun z => by omega⟩
      have hE2 : iE I2 n w kd nd wd := hE1.same (fun b k hb => hs2 b k (by omega))
      have hF2 : FM I2 0 (S D) := FM0.mpr (fun k hk => by rw [hs2 142 k (by omega)]; exact FM0.mp hF1 k hk)
      have hwc := hw.carry hn hb q1.2.2.2.2.1
      refine c_X11_carries (f := 0) (by decide) (by omega) hF2 (fun I3 hs3 hF3 => ?_)
      refine c_X11_alive (hE2.frame hs3) hF3 hwc ⟨rfl, ?_⟩
      have hs' : Same (fun b k => (b = 28 ∧ k = 3) ∨ b = 29 ∨ (33 ≤ b ∧ b ≤ 35) ∨ (b = 129 ∧ k = 22) ∨ (b = 142 ∧ k < 18) ∨ (b = 143 ∧ 18 * D ≤ k ∧ k < 18 * D + 18)) I I3 := (hs1.weak (fun b k hb => by omega)).trans ((hs2.weak (fun b k hb => by omega)).trans (hs3.weak (fun b k hb => by omega)))
      refine deed_Inv (e := 6 * a + b) h hE hV hK (by omega) hdk ?_ hs' ?_ ?_ ?_ ?_
      · rw [hact]
        exact ⟨hwc.1, Nat.le_succ_of_le hwc.2.1, hwc.2.2⟩
      · exact cc.same (fun b k hb => by rw [hs3 b k (by omega), hs2 b k (by omega)])
      · rw [hs3 129 22 (by omega)]; exact r1
      · rw [hact]; exact FM0.mp hF3
      · intro k hk
        rw [hs3 143 _ (by omega), r2 k hk, hs1 142 k (by omega)]
    · refine en_X11_carry (c_X11_isHouse hE (fun _ => t_one (c_X11_isHouse hE (fun _ => t_one ⟨fun _ => ?_, fun z => absurd z c0⟩) (fun z => absurd p z))) (fun z => absurd q z))
      refine c_X11_canCarry (f := 0) (by decide) ha hb hE hF0 hw (by omega) (fun _ => t_one' ?_) (fun z => absurd q1 z)
      rw [v4, e40]
      exact ⟨fun z => by omega, fun _ => ⟨rfl, h⟩⟩
  · refine en_X11_carry (c_X11_isHouse hE (fun _ => t_one (c_X11_isHouse hE (fun _ => t_one ⟨fun _ => ?_, fun z => absurd z c0⟩) (fun z => absurd p z))) (fun z => absurd q z))
    exact c_X11_canCarry (f := 0) (by decide) ha hb hE hF0 hw (by omega) (fun z => absurd z q1) (fun _ => t_zero' ⟨rfl, h⟩)
end T53
