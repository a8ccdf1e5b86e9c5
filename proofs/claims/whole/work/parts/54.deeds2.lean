/-! ===== undo, keep, on, stack ===== -/
theorem camp_in {a : Nat} (h : a ∈ campL) : 28 ≤ a ∧ a + 7 ≤ 60 := by
  have : ∀ a ∈ campL, 28 ≤ a ∧ a + 7 ≤ 60 := by decide
  exact this a h
theorem camp_apart {a b : Nat} (ha : a ∈ campL) (hb : b ∈ campL) (h : a ≠ b) : a + 8 ≤ b ∨ b + 8 ≤ a := by
  have : ∀ a ∈ campL, ∀ b ∈ campL, a ≠ b → a + 8 ≤ b ∨ b + 8 ≤ a := by decide
  exact this a ha b hb h
theorem c40 : (40 : Int32).toNatClampNeg = 40 := by decide
theorem c00 : (0 : Int32).toNatClampNeg = 0 := by decide
section T54
variable {g : OG} {d : Nat} {I : IT} {X : XT} {K : Int32 → IT → XT → Prop} {KV : IT → XT → Prop}
variable {n w : Nat} {kd nd wd : Nat → Nat} {F : Nat → Nat} {m f a D : Nat} {dd : Nat → Nat} {S : Nat → Nat → Nat}
theorem iC.sub {E : Nat} (h : iC n kd D dd S) (hE : E ≤ D) : iC n kd E dd S := by
  obtain ⟨h1, h2, h3, h4, h5, h6⟩ := h
  exact ⟨by omega, fun i hi => h2 i (by omega), fun i hi => h3 i (by omega), h4, h5, h6⟩
theorem lp_X0_goBack {E : Nat} {u : Int32} (hC : iC n kd D dd S) (hED : E ≤ D) (I0 : IT) (hdd : ∀ i, i < D → I0 29 i = nI (dd i)) (hK : ∀ I', Same (fun b _ => 33 ≤ b ∧ b ≤ 35) I0 I' → FR I' 33 n (S E) → K u I' X) : ∀ (q i : Nat) (I : IT), i + q = E → iE I n w kd nd wd → Same (fun b _ => 33 ≤ b ∧ b ≤ 35) I0 I → FR I 33 n (S i) →
    SR g (d + 5) iX0_goBack 25 [(0, rf g 28), (1, .int (nI E)), (2, .int u), (3, .int (nI i))] I X (qI K) := by
  have hD := hC.1
  intro q
  induction q with
  | zero =>
    intro i I hi he hs hf
    obtain rfl : i = E := by omega
    exact rg_X0_goBack_25 (by decide) ⟨fun _ => hK I hs hf, fun c => absurd (Int32.le_refl _) c⟩
  | succ q ih =>
    intro i I hi he hs hf
    refine rg_X0_goBack_25 (by decide) ⟨fun c => absurd c (nI_ge (by omega) (by omega)), fun _ => ⟨fun c => absurd c (show ¬ nI 40 ≤ nI i from nI_ge (by omega) (by decide)), fun _ => ⟨vp_in_nI (by omega) (by decide), ?_⟩⟩⟩
    obtain ⟨s1, s2⟩ := hC.2.1 i (by omega)
    rw [nI_clamp (by omega), hs (28 + 1) i (by omega), hdd i (by omega)]
    refine c_X1_act (a := 33) s2 (by decide) (by decide) he hf (hC.2.2.1 i (by omega)) (by omega) (fun I2 hs2 hf2 x4 e4 => ?_)
    subst e4
    rw [nI_1]
    rw [← s1] at hf2
    exact ih (i + 1) I2 (by omega) (he.fire (a := 33) (by decide) hs2) (hs.trans (hs2.weak (fun b k hb => by omega))) hf2
theorem c_X0_goBack {E : Nat} (hE : iE I n w kd nd wd) (hC : iC n kd D dd S) (hcc : iCC I 28 n D dd S) (hED : E ≤ D) (hK : ∀ I', Same (fun b k => (b = 28 ∧ k = 3) ∨ (33 ≤ b ∧ b ≤ 35)) I I' → iCC I' 28 n E dd S → K (nI (D - E)) I' X) : CI g (d + 5) iX0_goBack [rf g 28, .int (nI E)] I X K := by
  obtain ⟨h1, h2, h3, h4⟩ := hcc
  have hD := hC.1
  have hw := hC.2.2.1 0 (by omega)
  have hn := hE.1.2.2
  refine en_X0_goBack (by decide) (fun x1 e1 I2 e2 => ?_)
  rw [h1, pk_sub hED] at e1
  subst e1; subst e2
  have hs2 : Same (fun b k => (b = 28 ∧ k = 3) ∨ (33 ≤ b ∧ b ≤ 35)) I (set2 I 28 3 (nI E)) := Same.set (by omega)
  have hf2 : FR (set2 I 28 3 (nI E)) 30 n (S 0) := h3.same (fun b k hb => hs2 b k (by omega))
  refine c_X1_become (a := 33) (p := 30) (by decide) (by decide) (by decide) hn hf2 hw.2.2.1 hw.2.2.2.1 (fun I3 hs3 hf3 => ?_)
  have hs13 : Same (fun b k => (b = 28 ∧ k = 3) ∨ (33 ≤ b ∧ b ≤ 35)) I I3 := hs2.trans (hs3.weak (fun b k hb => by omega))
  refine lp_X0_goBack (D := D) hC hED I3 (fun i hi => by rw [hs13 29 i (by omega)]; exact h2 i hi) (fun I4 hs4 hf4 => ?_) E 0 I3 (by omega) (hE.same (fun b k hb => hs13 b k (by omega))) Same.rf hf3
  have hs14 := hs13.trans (hs4.weak (Q := fun b k => (b = 28 ∧ k = 3) ∨ (33 ≤ b ∧ b ≤ 35)) (fun b k hb => by omega))
  refine hK I4 hs14 ⟨?_, fun i hi => ?_, ?_, hf4⟩
  · rw [hs4 28 3 (by omega), hs3 28 3 (by omega), set2_at, if_pos ⟨rfl, rfl⟩]
  · rw [hs14 (28 + 1) i (by omega)]; exact h2 i (by omega)
  · exact h3.same (fun b k hb => hs14 b k (by omega))
theorem lp_X11_undo {E u : Nat} (hu : 0 < u ∧ u < 1000) (hE40 : E < 40) (I0 : IT) (hK : ∀ I', Same (fun b k => (b = 129 ∧ k = 22) ∨ (b = 142 ∧ k < 18)) I0 I' → I' 129 22 = nI E → (∀ k, k < 18 → I' 142 k = I0 143 (18 * E + k)) → K (nI u) I' X) : ∀ (q i : Nat) (I : IT), i + q = 18 → Same (fun b k => b = 142 ∧ k < 18) I0 I → (∀ k, k < i → I 142 k = I0 143 (18 * E + k)) →
    SR g (d + 2) iX11_undo 23 [(0, rf g 129), (1, .int (nI E)), (2, .int (nI u)), (3, .int (nI i))] I X (qI K) := by
  intro q
  induction q with
  | zero =>
    intro i I hi hs h0
    obtain rfl : i = 18 := by omega
    refine rg_X11_undo_23 ⟨fun _ I1 e1 => ?_, fun c => absurd (by decide) c⟩
    subst e1
    refine hK _ ((hs.weak (fun b k hb => Or.inr hb)).trans (Same.set (Or.inl ⟨rfl, rfl⟩))) ?_ (fun k hk => ?_)
    · rw [set2_at, if_pos ⟨rfl, rfl⟩]
    · rw [set2_at, if_neg (by omega)]; exact h0 k hk
  | succ q ih =>
    intro i I hi hs h0
    refine rg_X11_undo_23 ⟨fun c => absurd c (show ¬ nI 18 ≤ nI i from nI_ge (by omega) (by omega)), fun _ => ⟨fun c => absurd ((nle0 (by omega)).mp c) (by omega), fun _ => ?_⟩⟩
    rw [ix18, nI_clamp (n := 18 * E + i) (by omega), nI_clamp (n := i) (by omega), nI_1]
    refine ⟨vp_in_nI (by omega) (by decide), vp_in_nI (by omega) (by decide), fun I4 e4 x5 e5 => ?_⟩
    subst e4; subst e5
    refine ih (i + 1) _ (by omega) (hs.trans (Same.set (by omega))) (fun k hk => ?_)
    rw [set2_at]
    by_cases qk : k = i
    · rw [if_pos ⟨rfl, by omega⟩, hs 143 _ (by omega), qk]
    · rw [if_neg (by omega)]; exact h0 k (by omega)
theorem op_undo {v : Int32} (h : Inv I X) : PairI g (d + 6) iX10_undo iX11_undo [.int v] I X := by
  obtain ⟨n, w, kd, nd, wd, D, dd, S, hE, hV, hK⟩ := h.2.2.2.2.2
  have hn := hE.1.2.2
  obtain ⟨v1, v2, v3, v4, v5, v6, v7⟩ := id hV
  have hD := v1.1
  have hbad : (v < 0 ∨ ¬ v ≤ nI D) → CI g (d + 6) iX11_undo [rf g 129, .int v] I X (fun r' I2 X2 => r' = -1 ∧ Inv I2 X2) := fun hc => by
    refine en_X11_undo ?_
    rw [v4]
    refine c_X11_in (fun c => ?_) (fun _ => t_zero' ⟨rfl, h⟩)
    rcases hc with hc | hc
    · exact absurd c.1 (Int32.not_le.mpr hc)
    · exact absurd c.2 hc
  refine en_X10_undo ?_
  rw [v2.1]
  refine ⟨fun c => hbad (Or.inl c), fun c => ⟨fun c2 => ?_, fun c2 => hbad (Or.inr c2)⟩⟩
  obtain ⟨E, hED, rfl⟩ := i_upto (n := D) (by omega) (Int32.not_lt.mp c) c2
  refine c_X0_goBack hE v1 v2 hED (fun I1 hs1 cc => ?_)
  refine en_X11_undo ?_
  have e22 : I1 129 22 = nI D := by rw [hs1 129 22 (by omega)]; exact v4
  rw [e22]
  refine c_X11_in (fun _ => t_one' (fun x4 e4 => ?_)) (fun z => absurd ⟨nI_pos' (by omega), c2⟩ z)
  rw [e22, pk_sub hED] at e4
  subst e4
  obtain ⟨h1, h2, h3, h4, h5, -⟩ := id h
  -- what is left behind it
  have fin : ∀ I2 : IT, Same (fun b k => (b = 129 ∧ k = 22) ∨ (b = 142 ∧ k < 18)) I1 I2 → I2 129 22 = nI E → (∀ k, k < 18 → I2 142 k = nI (S E k)) → Inv I2 X := by
    intro I2 hs2 m1 m2
    have hs : Same (fun b k => (b = 28 ∧ k = 3) ∨ (33 ≤ b ∧ b ≤ 35) ∨ (b = 129 ∧ k = 22) ∨ (b = 142 ∧ k < 18)) I I2 := (hs1.weak (fun b k hb => by omega)).trans (hs2.weak (fun b k hb => by omega))
    refine ⟨h1.same (fun b k hb => hs b k (by omega)), h2.same (fun b k hb => hs b k (by omega)), h3, h4.same (fun b k hb => hs b k (by omega)), h5.same (fun b k hb => hs b k (by omega)), n, w, kd, nd, wd, E, dd, S, hE.same (fun b k hb => hs b k (by omega)), ⟨v1.sub hED, cc.same (fun b k hb => hs2 b k (by omega)), fun h0 => by rw [hs 28 4 (by omega)]; exact v3 h0, m1, fun k hk => by rw [hs 141 k (by omega)]; exact v5 k hk, m2, fun i hi k hk => by rw [hs 143 _ (by omega)]; exact v7 i (by omega) k hk⟩, hK.same (fun b k hb => hs b k (by omega))⟩
  by_cases hz : E = D
  · subst hz
    rw [Nat.sub_self]
    refine rg_X11_undo_23 ⟨fun q => absurd q (by decide), fun _ => ⟨fun _ I2 e2 => ⟨rfl, ?_⟩, fun q => absurd (Int32.le_refl 0) q⟩⟩
    subst e2
    refine fin _ (Same.set (Or.inl ⟨rfl, rfl⟩)) (by rw [set2_at, if_pos ⟨rfl, rfl⟩]) (fun k hk => ?_)
    rw [set2_at, if_neg (by omega), hs1 142 k (by omega)]; exact v6 k hk
  · refine lp_X11_undo (I0 := I1) ⟨by omega, by omega⟩ (by omega) (fun I2 hs2 m1 m2 => ⟨rfl, fin I2 hs2 m1 (fun k hk => ?_)⟩) 18 0 I1 (by omega) Same.rf (fun k hk => by omega)
    rw [m2 k hk, hs1 143 _ (by omega)]; exact v7 E (by omega) k hk
/-- a Campaign becomes another one -/
theorem c_X0_become {c p : Nat} (hc : c ∈ campL) (hp : p ∈ campL) (hcp : c ≠ p) (hn : n ≤ 5) (hC : iC n kd D dd S) (hcc : iCC I p n D dd S) (h4 : I p 4 = 1) (hK : ∀ I', Same (fun b _ => c ≤ b ∧ b ≤ c + 7) I I' → I' c 4 = 1 → iCC I' c n D dd S → KV I' X) : CV g (d + 2) iX0_become [rf g c, rf g p] I X KV := by
  obtain ⟨h1, h2, h3, h5⟩ := hcc
  have hap := camp_apart hc hp hcp
  have hD := hC.1
  have hw0 := hC.2.2.1 0 (by omega)
  have hwD := hC.2.2.1 D (Nat.le_refl D)
  refine en_X0_become hc hp ?_
  rw [h4, c40, c00]
  refine ⟨Or.inr rfl, fun I1 e1 I2 e2 => ?_⟩
  have hs2 : Same (fun b _ => c ≤ b ∧ b ≤ c + 7) I I2 := by rw [e2, e1]; exact Same.step (Same.set (by omega)) (by omega)
  refine c_X1_become (camp_first hc) (camp_first hp) (by omega) hn (h3.same (fun b k hb => hs2 b k (by omega))) hw0.2.2.1 hw0.2.2.2.1 (fun I3 hs3 hf3 => ?_)
  have hs23 : Same (fun b _ => c ≤ b ∧ b ≤ c + 7) I I3 := hs2.trans (hs3.weak (fun b k hb => by omega))
  refine c_X1_become (camp_now hc) (camp_now hp) (by omega) hn (h5.same (fun b k hb => hs23 b k (by omega))) hwD.2.2.1 hwD.2.2.2.1 (fun I5 hs5 hf5 => ?_)
  have hs25 : Same (fun b _ => c ≤ b ∧ b ≤ c + 7) I I5 := hs23.trans (hs5.weak (fun b k hb => by omega))
  refine ⟨⟨⟨by decide, by decide, by decide⟩, by decide, by decide⟩, fun I7 e7 => ?_⟩
  have hs57 : Same (fun b _ => b = c + 1) I5 I7 := fun b k hb => by rw [e7, setRow_at, if_neg hb]
  refine hK I7 (hs25.trans (hs57.weak (fun b k hb => by omega))) ?_ ⟨?_, fun i hi => ?_, ?_, ?_⟩
  · rw [hs57 c 4 (by omega), hs5 c 4 (by omega), hs3 c 4 (by omega), e2, set2_at, if_neg (by omega), e1, set2_at, if_pos ⟨rfl, rfl⟩]
  · rw [hs57 c 3 (by omega), hs5 c 3 (by omega), hs3 c 3 (by omega), e2, set2_at, if_pos ⟨rfl, rfl⟩, e1, set2_at, if_neg (by omega)]
    exact h1
  · rw [e7, setRow_at, if_pos rfl, pk_cpy_in (by omega) (by omega), hs25 (p + 1) _ (by omega), show 0 + (i - 0) = i by omega]
    exact h2 i hi
  · exact hf3.same (fun b k hb => by rw [hs57 b k (by omega), hs5 b k (by omega)])
  · exact hf5.same (fun b k hb => hs57 b k (by omega))
theorem in3 {x : Int32} : (0 ≤ x ∧ x ≤ 2) ↔ vp_in x 3 := by
  simp only [vp_in_iff, i_le, Int32.reduceToInt]
  omega
theorem ix720 (j i : Nat) : 720 * nI j + nI i = nI (720 * j + i) := by
  show nI 720 * nI j + nI i = _
  rw [pk_mul, nI_add]
theorem lp_X11_keep1 {j : Nat} (hj : j < 3) (I0 : IT) (hK : ∀ I', Same (fun b k => (b = 146 ∨ b = 147) ∧ 18 * j ≤ k ∧ k < 18 * j + 18) I0 I' → (∀ k, k < 18 → I' 146 (18 * j + k) = I0 141 k ∧ I' 147 (18 * j + k) = I0 142 k) → SR g (d + 2) iX11_keep 88 [(0, rf g 129), (1, .int (nI j)), (2, .int 0)] I' X (qI K)) : ∀ (q i : Nat) (I : IT), i + q = 18 → Same (fun b k => (b = 146 ∨ b = 147) ∧ 18 * j ≤ k ∧ k < 18 * j + 18) I0 I → (∀ k, k < i → I 146 (18 * j + k) = I0 141 k ∧ I 147 (18 * j + k) = I0 142 k) →
    SR g (d + 2) iX11_keep 40 [(0, rf g 129), (1, .int (nI j)), (2, .int (nI i))] I X (qI K) := by
  intro q
  induction q with
  | zero =>
    intro i I hi hs h0
    obtain rfl : i = 18 := by omega
    exact rg_X11_keep_40 ⟨fun _ => hK I hs h0, fun c => absurd (by decide) c⟩
  | succ q ih =>
    intro i I hi hs h0
    refine rg_X11_keep_40 ⟨fun c => absurd c (show ¬ nI 18 ≤ nI i from nI_ge (by omega) (by omega)), fun _ => ?_⟩
    rw [ix18, nI_clamp (n := 18 * j + i) (by omega), nI_clamp (n := i) (by omega), nI_1]
    have i54 : vp_in (nI (18 * j + i)) 54 := vp_in_nI (by omega) (by decide)
    refine ⟨vp_in_nI (by omega) (by decide), i54, fun I3 e3 => ⟨vp_in_nI (by omega) (by decide), i54, fun I6 e6 x7 e7 => ?_⟩⟩
    subst e3; subst e6; subst e7
    refine ih (i + 1) _ (by omega) (hs.trans (Same.step (Same.set ⟨Or.inl rfl, by omega, by omega⟩) ⟨Or.inr rfl, by omega, by omega⟩)) (fun k hk => ?_)
    by_cases qk : k = i
    · subst qk
      refine ⟨?_, ?_⟩
      · rw [set2_at, if_neg (by omega), set2_at, if_pos ⟨rfl, rfl⟩]; exact hs 141 k (by omega)
      · rw [set2_at, if_pos ⟨rfl, rfl⟩, set2_at, if_neg (by omega)]; exact hs 142 k (by omega)
    · refine ⟨?_, ?_⟩
      · rw [set2_at, if_neg (by omega), set2_at, if_neg (by omega)]; exact (h0 k (by omega)).1
      · rw [set2_at, if_neg (by omega), set2_at, if_neg (by omega)]; exact (h0 k (by omega)).2
theorem lp_X11_keep2 {j : Nat} (hj : j < 3) (hD : D ≤ 40) (I0 : IT) (h22 : I0 129 22 = nI D) (hK : ∀ I', Same (fun b k => b = 148 ∧ 720 * j ≤ k ∧ k < 720 * j + 720) I0 I' → (∀ k, k < 18 * D → I' 148 (720 * j + k) = I0 143 k) → K (nI D) I' X) : ∀ (q i : Nat) (I : IT), i + q = 18 * D → Same (fun b k => b = 148 ∧ 720 * j ≤ k ∧ k < 720 * j + 720) I0 I → (∀ k, k < i → I 148 (720 * j + k) = I0 143 k) →
    SR g (d + 2) iX11_keep 88 [(0, rf g 129), (1, .int (nI j)), (2, .int (nI i))] I X (qI K) := by
  intro q
  induction q with
  | zero =>
    intro i I hi hs h0
    refine rg_X11_keep_88 ?_
    rw [hs 129 22 (by omega), h22, show (18 : Int32) = nI 18 from rfl, pk_mul]
    obtain rfl : i = 18 * D := by omega
    exact ⟨fun _ => hK I hs h0, fun c => absurd (Int32.le_refl _) c⟩
  | succ q ih =>
    intro i I hi hs h0
    refine rg_X11_keep_88 ?_
    rw [hs 129 22 (by omega), h22, show (18 : Int32) = nI 18 from rfl, pk_mul, ix720, nI_clamp (n := 720 * j + i) (by omega), nI_clamp (n := i) (by omega), nI_1]
    refine ⟨fun c => absurd c (nI_ge (by omega) (by omega)), fun _ => ⟨vp_in_nI (by omega) (by decide), vp_in_nI (by omega) (by decide), fun I3 e3 x4 e4 => ?_⟩⟩
    subst e3; subst e4
    refine ih (i + 1) _ (by omega) (hs.trans (Same.set (by omega))) (fun k hk => ?_)
    rw [set2_at]
    by_cases qk : k = i
    · rw [if_pos ⟨rfl, by omega⟩, hs 143 _ (by omega), qk]
    · rw [if_neg (by omega)]; exact h0 k (by omega)
theorem op_keep {v : Int32} (h : Inv I X) : PairI g (d + 3) iX10_keep iX11_keep [.int v] I X := by
  obtain ⟨n, w, kd, nd, wd, D, dd, S, hE, hV, hK⟩ := h.2.2.2.2.2
  have hn := hE.1.2.2
  obtain ⟨v1, v2, v3, v4, v5, v6, v7⟩ := id hV
  have hD := v1.1
  have e10 : nI n = 0 ↔ n = 0 := nI_eqL 0 (by omega) (by decide)
  refine en_X10_keep (c_X10_isKeepingPlace (fun q => t_one' ?_) (fun q => t_zero' ?_))
  · obtain ⟨j, hj, rfl⟩ := vp_in_of q (by decide)
    have tc : (nI j).toNatClampNeg = j := nI_clamp (by omega)
    refine c_X3_isEmpty hE (fun q0 => t_one ?_) (fun q0 => t_zero ⟨q, ?_⟩)
    · refine en_X11_keep (c_X11_in (fun _ => t_one' ?_) (fun z => absurd (in3.mpr q) z))
      rw [hE.1.2.1, e10]
      exact ⟨fun z => absurd q0 z, fun _ => ⟨rfl, h⟩⟩
    · rw [tc]
      have hkm : keptA j ∈ campL := (kept_el_all j hj).2.1
      have hk28 : keptA j ≠ 28 := by unfold keptA; omega
      refine c_X0_become hkm (by decide) hk28 hn v1 v2 (v3 q0) (fun I1 hs1 k4 cc => ?_)
      have e283 : I1 28 3 = nI D := by rw [hs1 28 3 (by unfold keptA; omega)]; exact v2.1
      rw [e283]
      have hE1 : iE I1 n w kd nd wd := hE.same (fun b k hb => hs1 b k (by unfold keptA; omega))
      refine en_X11_keep (c_X11_in (fun _ => t_one' ?_) (fun z => absurd (in3.mpr q) z))
      rw [hE1.1.2.1, e10, tc]
      refine ⟨fun _ => ⟨q, fun I5 e5 => ⟨q, fun I7 e7 => ?_⟩⟩, fun z => by omega⟩
      have k22 : I5 129 22 = nI D := by rw [e5, set2_at, if_neg (by omega), hs1 129 22 (by unfold keptA; omega)]; exact v4
      rw [k22] at e7
      have hs7 : Same (fun b k => (b = 144 ∧ k = j) ∨ (b = 145 ∧ k = j)) I1 I7 := by rw [e7, e5]; exact Same.step (Same.set (by omega)) (by omega)
      refine lp_X11_keep1 hj I7 (fun I8 hs8 f8 => ?_) 18 0 I7 (by omega) Same.rf (fun k hk => by omega)
      refine lp_X11_keep2 (D := D) hj hD I8 (by rw [hs8 129 22 (by omega), hs7 129 22 (by omega), hs1 129 22 (by unfold keptA; omega)]; exact v4) (fun I9 hs9 f9 => ⟨rfl, ?_⟩) (18 * D) 0 I8 (by omega) Same.rf (fun k hk => by omega)
      have hsm : Same (fun b k => (b = 144 ∧ k = j) ∨ (b = 145 ∧ k = j) ∨ ((b = 146 ∨ b = 147) ∧ 18 * j ≤ k ∧ k < 18 * j + 18) ∨ (b = 148 ∧ 720 * j ≤ k ∧ k < 720 * j + 720)) I1 I9 := (hs7.weak (fun b k hb => by omega)).trans ((hs8.weak (fun b k hb => by omega)).trans (hs9.weak (fun b k hb => by omega)))
      have hs : Same (fun b k => (keptA j ≤ b ∧ b ≤ keptA j + 7) ∨ (b = 144 ∧ k = j) ∨ (b = 145 ∧ k = j) ∨ ((b = 146 ∨ b = 147) ∧ 18 * j ≤ k ∧ k < 18 * j + 18) ∨ (b = 148 ∧ 720 * j ≤ k ∧ k < 720 * j + 720)) I I9 := (hs1.weak (fun b k hb => Or.inl hb)).trans (hsm.weak (fun b k hb => Or.inr hb))
      obtain ⟨h1, h2, h3, h4, h5, -⟩ := id h
      refine ⟨h1.same (fun b k hb => hs b k (by unfold keptA; omega)), h2.same (fun b k hb => hs b k (by unfold keptA; omega)), h3, h4.same (fun b k hb => hs b k (by unfold keptA; omega)), h5.same (fun b k hb => hs b k (by unfold keptA; omega)), n, w, kd, nd, wd, D, dd, S, hE.same (fun b k hb => hs b k (by unfold keptA; omega)), hV.same (fun b k hb => hs b k (by unfold keptA; omega)), ?_⟩
      intro r hr
      by_cases hrj : r = j
      · subst hrj
        have m144 : I9 144 r = 1 := by rw [hs9 144 r (by omega), hs8 144 r (by omega), e7, set2_at, if_neg (by omega), e5, set2_at, if_pos ⟨rfl, rfl⟩]
        refine ⟨?_, Or.inr ⟨m144, D, dd, S, v1, cc.same (fun b k hb => hsm b k (by unfold keptA at hb; omega)), ?_, fun k hk => ?_, fun k hk => ?_, fun i hi k hk => ?_⟩⟩
        · rw [m144, hsm (keptA r) 4 (by unfold keptA; omega)]; exact k4
        · rw [hs9 145 r (by omega), hs8 145 r (by omega), e7, set2_at, if_pos ⟨rfl, rfl⟩]
        · rw [hs9 146 _ (by omega), (f8 k hk).1, hs7 141 k (by omega), hs1 141 k (by unfold keptA; omega)]; exact v5 k hk
        · rw [hs9 147 _ (by omega), (f8 k hk).2, hs7 142 k (by omega), hs1 142 k (by unfold keptA; omega)]; exact v6 k hk
        · rw [f9 (18 * i + k) (by omega), hs8 143 _ (by omega), hs7 143 _ (by omega), hs1 143 _ (by unfold keptA; omega)]; exact v7 i hi k hk
      · obtain ⟨g1, g2⟩ := hK r hr
        have e1 := hs (keptA r) 4 (by unfold keptA; omega)
        have e2 := hs 144 r (by unfold keptA; omega)
        refine ⟨by rw [e1, e2]; exact g1, ?_⟩
        rw [e2]
        rcases g2 with g2 | ⟨g2, D', dd', S', a1, a2, a3, a4, a5, a6⟩
        · exact Or.inl g2
        · have hD' := a1.1
          exact Or.inr ⟨g2, D', dd', S', a1, a2.same (fun b k hb => hs b k (by unfold keptA at *; omega)), by rw [hs 145 r (by unfold keptA; omega)]; exact a3, fun k hk => by rw [hs 146 _ (by unfold keptA; omega)]; exact a4 k hk, fun k hk => by rw [hs 147 _ (by unfold keptA; omega)]; exact a5 k hk, fun i hi k hk => by rw [hs 148 _ (by unfold keptA; omega)]; exact a6 i hi k hk⟩
  · exact en_X11_keep (c_X11_in (fun z => absurd (in3.mp z) q) (fun _ => t_zero' ⟨rfl, h⟩))
theorem lp_X11_on1 {j : Nat} (hj : j < 3) (I0 : IT) (hK : ∀ I', Same (fun b k => (b = 141 ∨ b = 142) ∧ k < 18) I0 I' → (∀ k, k < 18 → I' 141 k = I0 146 (18 * j + k) ∧ I' 142 k = I0 147 (18 * j + k)) → SR g (d + 2) iX11_on 86 [(0, rf g 129), (1, .int (nI j)), (2, .int 0)] I' X (qI K)) : ∀ (q i : Nat) (I : IT), i + q = 18 → Same (fun b k => (b = 141 ∨ b = 142) ∧ k < 18) I0 I → (∀ k, k < i → I 141 k = I0 146 (18 * j + k) ∧ I 142 k = I0 147 (18 * j + k)) →
    SR g (d + 2) iX11_on 38 [(0, rf g 129), (1, .int (nI j)), (2, .int (nI i))] I X (qI K) := by
  intro q
  induction q with
  | zero =>
    intro i I hi hs h0
    obtain rfl : i = 18 := by omega
    exact rg_X11_on_38 ⟨fun _ => hK I hs h0, fun c => absurd (by decide) c⟩
  | succ q ih =>
    intro i I hi hs h0
    refine rg_X11_on_38 ⟨fun c => absurd c (show ¬ nI 18 ≤ nI i from nI_ge (by omega) (by omega)), fun _ => ?_⟩
    rw [ix18, nI_clamp (n := 18 * j + i) (by omega), nI_clamp (n := i) (by omega), nI_1]
    have i54 : vp_in (nI (18 * j + i)) 54 := vp_in_nI (by omega) (by decide)
    refine ⟨i54, vp_in_nI (by omega) (by decide), fun I3 e3 => ⟨i54, vp_in_nI (by omega) (by decide), fun I6 e6 x7 e7 => ?_⟩⟩
    subst e3; subst e6; subst e7
    refine ih (i + 1) _ (by omega) (hs.trans (Same.step (Same.set ⟨Or.inl rfl, by omega⟩) ⟨Or.inr rfl, by omega⟩)) (fun k hk => ?_)
    by_cases qk : k = i
    · subst qk
      refine ⟨?_, ?_⟩
      · rw [set2_at, if_neg (by omega), set2_at, if_pos ⟨rfl, rfl⟩]; exact hs 146 _ (by omega)
      · rw [set2_at, if_pos ⟨rfl, rfl⟩, set2_at, if_neg (by omega)]; exact hs 147 _ (by omega)
    · refine ⟨?_, ?_⟩
      · rw [set2_at, if_neg (by omega), set2_at, if_neg (by omega)]; exact (h0 k (by omega)).1
      · rw [set2_at, if_neg (by omega), set2_at, if_neg (by omega)]; exact (h0 k (by omega)).2
theorem lp_X11_on2 {j : Nat} (hj : j < 3) (hD : D ≤ 40) (I0 : IT) (h22 : I0 129 22 = nI D) (hK : ∀ I', Same (fun b k => b = 143) I0 I' → (∀ k, k < 18 * D → I' 143 k = I0 148 (720 * j + k)) → K (nI D) I' X) : ∀ (q i : Nat) (I : IT), i + q = 18 * D → Same (fun b k => b = 143) I0 I → (∀ k, k < i → I 143 k = I0 148 (720 * j + k)) →
    SR g (d + 2) iX11_on 86 [(0, rf g 129), (1, .int (nI j)), (2, .int (nI i))] I X (qI K) := by
  intro q
  induction q with
  | zero =>
    intro i I hi hs h0
    refine rg_X11_on_86 ?_
    rw [hs 129 22 (by omega), h22, show (18 : Int32) = nI 18 from rfl, pk_mul]
    obtain rfl : i = 18 * D := by omega
    exact ⟨fun _ => hK I hs h0, fun c => absurd (Int32.le_refl _) c⟩
  | succ q ih =>
    intro i I hi hs h0
    refine rg_X11_on_86 ?_
    rw [hs 129 22 (by omega), h22, show (18 : Int32) = nI 18 from rfl, pk_mul, ix720, nI_clamp (n := 720 * j + i) (by omega), nI_clamp (n := i) (by omega), nI_1]
    refine ⟨fun c => absurd c (nI_ge (by omega) (by omega)), fun _ => ⟨vp_in_nI (by omega) (by decide), vp_in_nI (by omega) (by decide), fun I3 e3 x4 e4 => ?_⟩⟩
    subst e3; subst e4
    refine ih (i + 1) _ (by omega) (hs.trans (Same.set rfl)) (fun k hk => ?_)
    rw [set2_at]
    by_cases qk : k = i
    · rw [if_pos ⟨rfl, by omega⟩, hs 148 _ (by omega), qk]
    · rw [if_neg (by omega)]; exact h0 k (by omega)
theorem op_on {v : Int32} (h : Inv I X) : PairI g (d + 3) iX10_on iX11_on [.int v] I X := by
  obtain ⟨n, w, kd, nd, wd, D0, dd0, S0, hE, hV, hK⟩ := h.2.2.2.2.2
  have hn := hE.1.2.2
  refine en_X10_on (c_X10_isKeepingPlace (fun q => t_one' ?_) (fun q => t_zero' ?_))
  · obtain ⟨j, hj, rfl⟩ := vp_in_of q (by decide)
    have tc : (nI j).toNatClampNeg = j := nI_clamp (by omega)
    obtain ⟨g1, g2⟩ := hK j hj
    rw [tc, g1]
    refine ⟨q, fun c => ⟨q, ?_⟩, fun c => c_X10_found 1 rfl (by decide) ?_⟩
    · rcases g2 with g2 | ⟨g2, D, dd, S, a1, a2, a3, a4, a5, a6⟩
      · exact absurd g2 c
      have hD := a1.1
      have hkm : keptA j ∈ campL := (kept_el_all j hj).2.1
      have hk28 : 28 ≠ keptA j := by unfold keptA; omega
      refine c_X0_become (by decide) hkm hk28 hn a1 a2 (g1.trans g2) (fun I1 hs1 k4 cc => ?_)
      rw [cc.1]
      refine en_X11_on (c_X11_in (fun _ => t_one' ?_) (fun z => absurd (in3.mpr q) z))
      rw [tc, hs1 144 j (by omega)]
      refine ⟨q, fun _ => ⟨q, fun I6 e6 => ?_⟩, fun z => absurd z c⟩
      rw [hs1 145 j (by omega), a3] at e6
      have hs6 : Same (fun b k => b = 129 ∧ k = 22) I1 I6 := by rw [e6]; exact Same.set ⟨rfl, rfl⟩
      refine lp_X11_on1 hj I6 (fun I8 hs8 f8 => ?_) 18 0 I6 (by omega) Same.rf (fun k hk => by omega)
      refine lp_X11_on2 (D := D) hj hD I8 (by rw [hs8 129 22 (by omega), e6, set2_at, if_pos ⟨rfl, rfl⟩]) (fun I9 hs9 f9 => ⟨rfl, ?_⟩) (18 * D) 0 I8 (by omega) Same.rf (fun k hk => by omega)
      have hsm : Same (fun b k => (b = 129 ∧ k = 22) ∨ ((b = 141 ∨ b = 142) ∧ k < 18) ∨ b = 143) I1 I9 := (hs6.weak (fun b k hb => by omega)).trans ((hs8.weak (fun b k hb => by omega)).trans (hs9.weak (fun b k hb => by omega)))
      have hs : Same (fun b k => (28 ≤ b ∧ b ≤ 35) ∨ (b = 129 ∧ k = 22) ∨ ((b = 141 ∨ b = 142) ∧ k < 18) ∨ b = 143) I I9 := (hs1.weak (fun b k hb => by omega)).trans (hsm.weak (fun b k hb => by omega))
      obtain ⟨h1, h2, h3, h4, h5, -⟩ := id h
      refine ⟨h1.same (fun b k hb => hs b k (by omega)), h2.same (fun b k hb => hs b k (by omega)), h3, h4.same (fun b k hb => hs b k (by omega)), h5.same (fun b k hb => hs b k (by omega)), n, w, kd, nd, wd, D, dd, S, hE.same (fun b k hb => hs b k (by omega)), ⟨a1, cc.same (fun b k hb => hsm b k (by omega)), fun _ => by rw [hsm 28 4 (by omega)]; exact k4, ?_, fun k hk => ?_, fun k hk => ?_, fun i hi k hk => ?_⟩, hK.same (fun b k hb => hs b k (by omega))⟩
      · rw [hs9 129 22 (by omega), hs8 129 22 (by omega), e6, set2_at, if_pos ⟨rfl, rfl⟩]
      · rw [hs9 141 k (by omega), (f8 k hk).1, hs6 146 _ (by omega), hs1 146 _ (by omega)]; exact a4 k hk
      · rw [hs9 142 k (by omega), (f8 k hk).2, hs6 147 _ (by omega), hs1 147 _ (by omega)]; exact a5 k hk
      · rw [f9 (18 * i + k) (by omega), hs8 148 _ (by omega), hs6 148 _ (by omega), hs1 148 _ (by omega)]; exact a6 i hi k hk
    · refine en_X11_on (c_X11_in (fun _ => t_one' ?_) (fun z => absurd (in3.mpr q) z))
      have e0 : fndC I 1 144 j = I 144 j := by unfold fndC; rw [set2_at, if_neg (by omega), set2_at, if_neg (by omega)]
      rw [tc, e0]
      exact ⟨q, fun z => absurd c z, fun _ => c_X11_meets 1 rfl (by decide) ⟨rfl, inv_found (by decide) h⟩⟩
  · exact en_X11_on (c_X11_in (fun z => absurd (in3.mp z) q) (fun _ => t_zero' ⟨rfl, h⟩))
end T54
