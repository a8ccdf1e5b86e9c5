/-! ===== the states as numbers, and what holds between the class's cells and the model's ===== -/
def mW (F : Nat → Nat) (k v : Nat) : Nat → Nat := fun j => if j = k then v else F j
def damp (c : Nat) : Nat := if c = 5 then 3 else if c = 2 then 1 else 0
def takeN (c hr : Nat) : Nat := if c = 3 then 2 else if c = 1 then (if hr % 2 = 0 then 1 else 0) else if c = 4 then (if hr % 4 = 0 then 1 else 0) else 1
def besB (n : Nat) (F : Nat → Nat) (h : Nat) : Nat := if (h + 1 < n ∧ F (10 + (h + 1)) = 1) ∨ (0 < h ∧ F (10 + (h - 1)) = 1) then 1 else 0
def houW (kd : Nat → Nat) (F : Nat → Nat) (j : Nat) : Nat := if F (10 + j) = 1 then F j - takeN (kd j) (F 15) else F j
def houD (n : Nat) (F : Nat → Nat) (j : Nat) : Nat := if F (10 + j) = 1 then F (5 + j) else F (5 + j) - besB n F j
def houB (kd : Nat → Nat) (F : Nat → Nat) (j : Nat) : Nat := if F (10 + j) = 1 then (if 0 < F j - takeN (kd j) (F 15) then 1 else 0) else F (10 + j)
/-- the first i houses behind the hour: wood 0.., wet 5.., burns 10.., hour 15, struck 16, carried 17 -/
def passI (n i : Nat) (kd : Nat → Nat) (F : Nat → Nat) : Nat → Nat := fun j =>
  if j < i then houW kd F j else if 5 ≤ j ∧ j < 5 + i then houD n F (j - 5) else if 10 ≤ j ∧ j < 10 + i then houB kd F (j - 10) else F j
def passN (n : Nat) (kd : Nat → Nat) (F : Nat → Nat) : Nat → Nat := mW (mW (passI n n kd F) 15 (F 15 + 1)) 17 0
def carryN (F : Nat → Nat) (k : Nat) : Nat → Nat := mW (mW F (10 + k) 1) 17 1
def lightN (F : Nat → Nat) (h : Nat) : Nat → Nat := mW (mW F 16 1) (10 + h) 1
def actN (n : Nat) (kd : Nat → Nat) (F : Nat → Nat) (dd : Nat) : Nat → Nat := if 40 ≤ dd then lightN F (dd - 40) else if dd = 36 then passN n kd F else carryN F (dd % 6)
def bset (F : Nat → Nat) : Nat → Nat
  | 0 => 0
  | n + 1 => bset F n + (if F (10 + n) = 1 then 2 ^ n else 0)
/-- a deed that may stand -/
def dok (n dd : Nat) : Prop := dd = 36 ∨ (40 ≤ dd ∧ dd < 40 + n) ∨ (dd < 36 ∧ dd % 6 < n)
/-- the class's Fire at a shows F -/
def FR (I : IT) (a n : Nat) (F : Nat → Nat) : Prop := (∀ h, h < n → I (a + 1) h = nI (F h) ∧ I (a + 2) h = nI (F (5 + h))) ∧ I a 3 = nI (bset F n) ∧ I a 4 = nI (F 15) ∧ I a 5 = nI (F 16) ∧ I a 6 = nI (F 17)
def WF (n : Nat) (F : Nat → Nat) (m : Nat) : Prop := (∀ h, h < n → F h ≤ 9 ∧ F (5 + h) ≤ 3 ∧ F (10 + h) ≤ 1 ∧ (F (10 + h) = 1 → 0 < F h)) ∧ F 15 ≤ m ∧ F 16 ≤ 1 ∧ F 17 ≤ 1 ∧ ∀ k, k < 18 → F k ≤ 1000
def ndI (v : Nat) : Int32 := if v = 99 then (-9) else nI v
def iF (I : IT) : Prop := I 1 13 = I 129 0 ∧ ∀ f, f < 6 → I 128 f = I 130 f
def iA (I : IT) : Prop := I 1 14 = I 129 2
def iU (X : XT) : Prop := X.1 1 15 = X.1 129 3 ∧ X.1 1 16 = X.1 129 4
def iR (I : IT) : Prop := ∀ r, r < 6 → I (rowA r) 1 = I 131 r ∧ (I 131 r = (-1) ∨ ∃ z, z ≤ 40 ∧ I 131 r = nI z ∧ ∀ k, k < z → I (rowA r + 1) k = I 132 (40 * r + k))
def iT (I : IT) : Prop := ∀ t, t < 4 → I (textA t) 1 = I 134 t ∧ (I 134 t = (-1) ∨ ∃ z, z ≤ 60 ∧ I 134 t = nI z ∧ ∀ k, k < z → I (textA t + 1) k = I 135 (60 * t + k))
/-- the houses of the village: n, winds w, kinds, needs (99: none), winds -/
def iE (I : IT) (n w : Nat) (kd nd wd : Nat → Nat) : Prop := (I 24 4 = nI n ∧ I 129 10 = nI n ∧ n ≤ 5) ∧ (I 24 3 = nI w ∧ I 129 11 = nI w ∧ w ≤ 6 ∧ (0 < n → 0 < w)) ∧ (∀ h, h < n → I 25 h = nI (kd h) ∧ I 137 h = nI (kd h) ∧ kd h ≤ 5) ∧ (∀ h, h < n → I 26 h = ndI (nd h) ∧ I 138 h = ndI (nd h) ∧ (nd h ≤ 9 ∨ nd h = 99)) ∧ (∀ k, k < w → I 27 k = nI (wd k) ∧ I 136 k = nI (wd k) ∧ wd k ≤ 2)
/-- a campaign: D deeds dd, the states S 0 (at first) .. S D (now) -/
def iC (n : Nat) (kd : Nat → Nat) (D : Nat) (dd : Nat → Nat) (S : Nat → Nat → Nat) : Prop := D ≤ 40 ∧ (∀ i, i < D → S (i + 1) = actN n kd (S i) (dd i) ∧ dok n (dd i)) ∧ (∀ i, i ≤ D → WF n (S i) i) ∧ (∀ h, h < n → S 0 (10 + h) = 0) ∧ S 0 16 = 0 ∧ S 0 17 = 0
/-- the class's Campaign at c shows it -/
def iCC (I : IT) (c n D : Nat) (dd : Nat → Nat) (S : Nat → Nat → Nat) : Prop := I c 3 = nI D ∧ (∀ i, i < D → I (c + 1) i = nI (dd i)) ∧ FR I (c + 2) n (S 0) ∧ FR I (c + 5) n (S D)
def iV (I : IT) (n : Nat) (kd : Nat → Nat) (D : Nat) (dd : Nat → Nat) (S : Nat → Nat → Nat) : Prop := iC n kd D dd S ∧ iCC I 28 n D dd S ∧ (0 < n → I 28 4 = 1) ∧ (I 129 22 = nI D ∧ (∀ k, k < 18 → I 141 k = nI (S 0 k)) ∧ (∀ k, k < 18 → I 142 k = nI (S D k)) ∧ ∀ i, i < D → ∀ k, k < 18 → I 143 (18 * i + k) = nI (S i k))
def iK (I : IT) (n : Nat) (kd : Nat → Nat) : Prop := ∀ k, k < 3 → I (keptA k) 4 = I 144 k ∧ (I 144 k = 0 ∨ (I 144 k = 1 ∧ ∃ D dd S, iC n kd D dd S ∧ iCC I (keptA k) n D dd S ∧ I 145 k = nI D ∧ (∀ j, j < 18 → I 146 (18 * k + j) = nI (S 0 j)) ∧ (∀ j, j < 18 → I 147 (18 * k + j) = nI (S D j)) ∧ ∀ i, i < D → ∀ j, j < 18 → I 148 (720 * k + (18 * i + j)) = nI (S i j)))
def iG (I : IT) : Prop := ∃ n w kd nd wd D dd S, iE I n w kd nd wd ∧ iV I n kd D dd S ∧ iK I n kd
def Inv (I : IT) (X : XT) : Prop := iF I ∧ iA I ∧ iU X ∧ iR I ∧ iT I ∧ iG I
/-- only the places that P names may differ -/
def Same (P : Nat → Nat → Prop) (I I' : IT) : Prop := ∀ b k, ¬ P b k → I' b k = I b k
theorem Same.rf {P : Nat → Nat → Prop} {I : IT} : Same P I I := fun _ _ _ => rfl
theorem Same.weak {P Q : Nat → Nat → Prop} {I I' : IT} (h : Same P I I') (hq : ∀ b k, P b k → Q b k) : Same Q I I' := fun b k hn => h b k (fun p => hn (hq b k p))
theorem Same.trans {P : Nat → Nat → Prop} {I I' I2 : IT} (h : Same P I I') (h2 : Same P I' I2) : Same P I I2 := fun b k hn => (h2 b k hn).trans (h b k hn)
theorem set2_at (I : IT) (a j : Nat) (v : Int32) (b k : Nat) : set2 I a j v b k = if b = a ∧ k = j then v else I b k := by
  unfold set2
  by_cases h : b = a
  · subst h
    rw [if_pos rfl]
    unfold upd
    by_cases hk : k = j
    · simp [hk]
    · simp [hk]
  · rw [if_neg h, if_neg (fun q => h q.1)]
theorem Same.set {P : Nat → Nat → Prop} {I : IT} {a j : Nat} {v : Int32} (h : P a j) : Same P I (set2 I a j v) := fun b k hn => by
  rw [set2_at, if_neg]
  rintro ⟨rfl, rfl⟩
  exact hn h
theorem Same.step {P : Nat → Nat → Prop} {I0 I : IT} {a j : Nat} {v : Int32} (hs : Same P I0 I) (h : P a j) : Same P I0 (set2 I a j v) := hs.trans (Same.set h)
-- the parts stay where their places stay
theorem iF.same {I I' : IT} (h : iF I) (hs : ∀ b k, ((b = 1 ∧ k = 13) ∨ (b = 129 ∧ k = 0) ∨ b = 128 ∨ b = 130) → I' b k = I b k) : iF I' :=
  ⟨by rw [hs 1 13 (by omega), hs 129 0 (by omega)]; exact h.1, fun f hf => by rw [hs 128 f (by omega), hs 130 f (by omega)]; exact h.2 f hf⟩
theorem iA.same {I I' : IT} (h : iA I) (hs : ∀ b k, ((b = 1 ∧ k = 14) ∨ (b = 129 ∧ k = 2)) → I' b k = I b k) : iA I' := by
  unfold iA
  rw [hs 1 14 (by omega), hs 129 2 (by omega)]
  exact h
theorem iR.same {I I' : IT} (h : iR I) (hs : ∀ b k, ((3 ≤ b ∧ b ≤ 14) ∨ b = 131 ∨ b = 132) → I' b k = I b k) : iR I' := by
  intro r hr
  obtain ⟨h1, h2⟩ := h r hr
  have e1 := hs (rowA r) 1 (by unfold rowA; omega)
  have e2 := hs 131 r (by omega)
  refine ⟨by rw [e1, e2]; exact h1, ?_⟩
  rw [e2]
  rcases h2 with h2 | ⟨z, hz, h3, h4⟩
  · exact Or.inl h2
  · exact Or.inr ⟨z, hz, h3, fun k hk => by rw [hs (rowA r + 1) k (by unfold rowA; omega), hs 132 _ (by omega)]; exact h4 k hk⟩
theorem iT.same {I I' : IT} (h : iT I) (hs : ∀ b k, ((16 ≤ b ∧ b ≤ 23) ∨ b = 134 ∨ b = 135) → I' b k = I b k) : iT I' := by
  intro r hr
  obtain ⟨h1, h2⟩ := h r hr
  have e1 := hs (textA r) 1 (by unfold textA; omega)
  have e2 := hs 134 r (by omega)
  refine ⟨by rw [e1, e2]; exact h1, ?_⟩
  rw [e2]
  rcases h2 with h2 | ⟨z, hz, h3, h4⟩
  · exact Or.inl h2
  · exact Or.inr ⟨z, hz, h3, fun k hk => by rw [hs (textA r + 1) k (by unfold textA; omega), hs 135 _ (by omega)]; exact h4 k hk⟩
theorem iE.same {I I' : IT} {n w : Nat} {kd nd wd : Nat → Nat} (h : iE I n w kd nd wd) (hs : ∀ b k, ((24 ≤ b ∧ b ≤ 27) ∨ (b = 129 ∧ (k = 10 ∨ k = 11)) ∨ (136 ≤ b ∧ b ≤ 138)) → I' b k = I b k) : iE I' n w kd nd wd := by
  obtain ⟨⟨a1, a2, a3⟩, ⟨b1, b2, b3, b4⟩, c, e, f⟩ := h
  refine ⟨⟨by rw [hs 24 4 (by omega)]; exact a1, by rw [hs 129 10 (by omega)]; exact a2, a3⟩, ⟨by rw [hs 24 3 (by omega)]; exact b1, by rw [hs 129 11 (by omega)]; exact b2, b3, b4⟩, fun q hq => ?_, fun q hq => ?_, fun q hq => ?_⟩
  · rw [hs 25 q (by omega), hs 137 q (by omega)]; exact c q hq
  · rw [hs 26 q (by omega), hs 138 q (by omega)]; exact e q hq
  · rw [hs 27 q (by omega), hs 136 q (by omega)]; exact f q hq
theorem FR.same {I I' : IT} {a n : Nat} {F : Nat → Nat} (h : FR I a n F) (hs : ∀ b k, (a ≤ b ∧ b ≤ a + 2) → I' b k = I b k) : FR I' a n F := by
  obtain ⟨h1, h2, h3, h4, h5⟩ := h
  refine ⟨fun q hq => ?_, ?_, ?_, ?_, ?_⟩
  · rw [hs (a + 1) q (by omega), hs (a + 2) q (by omega)]; exact h1 q hq
  · rw [hs a 3 (by omega)]; exact h2
  · rw [hs a 4 (by omega)]; exact h3
  · rw [hs a 5 (by omega)]; exact h4
  · rw [hs a 6 (by omega)]; exact h5
theorem iCC.same {I I' : IT} {c n D : Nat} {dd : Nat → Nat} {S : Nat → Nat → Nat} (h : iCC I c n D dd S) (hs : ∀ b k, (c ≤ b ∧ b ≤ c + 7) → I' b k = I b k) : iCC I' c n D dd S := by
  obtain ⟨h1, h2, h3, h4⟩ := h
  exact ⟨by rw [hs c 3 (by omega)]; exact h1, fun i hi => by rw [hs (c + 1) i (by omega)]; exact h2 i hi, h3.same (fun b k hb => hs b k (by omega)), h4.same (fun b k hb => hs b k (by omega))⟩
theorem iV.same {I I' : IT} {n : Nat} {kd : Nat → Nat} {D : Nat} {dd : Nat → Nat} {S : Nat → Nat → Nat} (h : iV I n kd D dd S) (hs : ∀ b k, ((28 ≤ b ∧ b ≤ 35) ∨ (b = 129 ∧ k = 22) ∨ b = 141 ∨ (b = 142 ∧ k < 18) ∨ b = 143) → I' b k = I b k) : iV I' n kd D dd S := by
  obtain ⟨h1, h2, h3, h4, h5, h6, h7⟩ := h
  exact ⟨h1, h2.same (fun b k hb => hs b k (by omega)), fun hn => by rw [hs 28 4 (by omega)]; exact h3 hn, by rw [hs 129 22 (by omega)]; exact h4, fun k hk => by rw [hs 141 k (by omega)]; exact h5 k hk, fun k hk => by rw [hs 142 k (by omega)]; exact h6 k hk, fun i hi k hk => by rw [hs 143 _ (by omega)]; exact h7 i hi k hk⟩
theorem iK.same {I I' : IT} {n : Nat} {kd : Nat → Nat} (h : iK I n kd) (hs : ∀ b k, ((37 ≤ b ∧ b ≤ 60) ∨ (144 ≤ b ∧ b ≤ 148)) → I' b k = I b k) : iK I' n kd := by
  intro k hk
  obtain ⟨h1, h2⟩ := h k hk
  have e1 := hs (keptA k) 4 (by unfold keptA; omega)
  have e2 := hs 144 k (by omega)
  refine ⟨by rw [e1, e2]; exact h1, ?_⟩
  rw [e2]
  rcases h2 with h2 | ⟨h2, D, dd, S, a1, a2, a3, a4, a5, a6⟩
  · exact Or.inl h2
  · exact Or.inr ⟨h2, D, dd, S, a1, a2.same (fun b j hb => hs b j (by unfold keptA at hb; omega)), by rw [hs 145 k (by omega)]; exact a3, fun j hj => by rw [hs 146 _ (by omega)]; exact a4 j hj, fun j hj => by rw [hs 147 _ (by omega)]; exact a5 j hj, fun i hi j hj => by rw [hs 148 _ (by omega)]; exact a6 i hi j hj⟩
theorem iG.same {I I' : IT} (h : iG I) (hs : ∀ b k, ((24 ≤ b ∧ b ≤ 35) ∨ (37 ≤ b ∧ b ≤ 60) ∨ (b = 129 ∧ (k = 10 ∨ k = 11 ∨ k = 22)) ∨ (136 ≤ b ∧ b ≤ 138) ∨ b = 141 ∨ (b = 142 ∧ k < 18) ∨ (143 ≤ b ∧ b ≤ 148)) → I' b k = I b k) : iG I' := by
  obtain ⟨n, w, kd, nd, wd, D, dd, S, h1, h2, h3⟩ := h
  exact ⟨n, w, kd, nd, wd, D, dd, S, h1.same (fun b k hb => hs b k (by omega)), h2.same (fun b k hb => hs b k (by omega)), h3.same (fun b k hb => hs b k (by omega))⟩
