/-! ===== the model's reader ===== -/
def TM (I : IT) (t z : Nat) (G : Nat → Int32) : Prop := t < 4 ∧ I 134 t = nI z ∧ z ≤ 60 ∧ (∀ k, k < z → I 135 (60 * t + k) = G k) ∧ ∀ k, z ≤ k → G k = 1000
def Eqv (v u : Int32) : Prop := (v = 32 ↔ u = 32) ∧ (v = 118 ↔ u = 118) ∧ (v = 45 ↔ u = 45) ∧ figN v = figN u ∧ kindI v = kindI u
def SR3 (I I' : IT) : Prop := Same (fun b k => (b = 129 ∧ 15 ≤ k ∧ k ≤ 17) ∨ b = 139 ∨ b = 140) I I'
def MDS (I : IT) (p m w : Nat) (hd wd : Nat → Nat) : Prop := I 129 15 = nI p ∧ I 129 16 = nI m ∧ I 129 17 = nI w ∧ (∀ k, k < 4 * m → I 140 k = ndI (hd k)) ∧ ∀ k, k < w → I 139 k = nI (wd k)
section T86
variable {g : OG} {d : Nat} {I : IT} {X : XT} {K : Int32 → IT → XT → Prop} {KV : IT → XT → Prop}
variable {z w m p t : Nat} {G : Nat → Int32} {hd wd : Nat → Nat}
theorem TM.same {I' : IT} (h : TM I t z G) (hs : ∀ b k, b = 134 ∨ b = 135 → I' b k = I b k) : TM I' t z G := by
  obtain ⟨h1, h2, h3, h4, h5⟩ := h
  exact ⟨h1, by rw [hs 134 t (by omega)]; exact h2, h3, fun k hk => by rw [hs 135 _ (by omega)]; exact h4 k hk, h5⟩
theorem TM.byte {v : Int32} (h : TM I t z G) (hv : v = nI p) (hp : p ≤ 100) (hK : ∀ u, Eqv u (G p) → K u I X) : CI g (d + 1) iX11_byteAt [rf g 129, .int (nI t), .int v] I X K := by
  subst hv
  have hz := h.2.2.1
  have ht := h.1
  refine en_X11_byteAt ?_
  rw [show (60 : Int32) * nI t + nI p = nI (60 * t + p) by rw [show (60 : Int32) = nI 60 from rfl, pk_mul, nI_add], nI_clamp (n := t) (by omega), nI_clamp (by omega), h.2.1, nI_leI (by omega) (by omega)]
  refine ⟨vp_in_nI (by omega) (by decide), fun c => hK 0 ?_, fun c => ⟨vp_in_nI (by omega) (by decide), ?_⟩⟩
  · rw [h.2.2.2.2 p c]
    unfold Eqv
    decide
  · rw [h.2.2.2.1 p (by omega)]
    exact hK _ ⟨Iff.rfl, Iff.rfl, Iff.rfl, rfl, rfl⟩
theorem TM.fig (h : TM I t z G) (hv : I 129 15 = nI p) (hp : p ≤ 100) (hT : figN (G p) ≤ 9 → K (nI (figN (G p))) I X) (hF : ¬ figN (G p) ≤ 9 → K (-9) I X) : CI g (d + 2) iX11_figureAt [rf g 129, .int (nI t)] I X K := by
  refine en_X11_figureAt (h.byte hv hp (fun u hu x4 e4 => ?_))
  subst e4
  refine c_X11_in (fun c => t_one ?_) (fun c => t_zero ?_)
  · have := fig_in.mp c
    rw [fig_sub this]
    rw [hu.2.2.2.1] at this ⊢
    exact hT this
  · have : ¬ figN u ≤ 9 := fun y => c (fig_in.mpr y)
    rw [hu.2.2.2.1] at this
    exact hF this
theorem ndI_nI {v : Nat} (h : v ≤ 9) : nI v = ndI v := (ndI_lt (by omega)).symm
theorem c_X11_readsHouse (h : TM I t z G) (hp : p < z) (hm : m ≤ 5) (hd0 : MDS I p m w hd wd)
    (e0 : (kindI (G p) = -9 ∨ m = 5) → K 0 I X)
    (e1 : ¬ (kindI (G p) = -9 ∨ m = 5) → ¬ figN (G (p + 1)) ≤ 9 → ∀ I', SR3 I I' → I' 129 15 = nI (p + 1) → K 0 I' X)
    (e2 : ¬ (kindI (G p) = -9 ∨ m = 5) → figN (G (p + 1)) ≤ 9 → ¬ figN (G (p + 2)) ≤ 3 → ∀ I', SR3 I I' → I' 129 15 = nI (p + 2) → K 0 I' X)
    (e3 : ¬ (kindI (G p) = -9 ∨ m = 5) → figN (G (p + 1)) ≤ 9 → figN (G (p + 2)) ≤ 3 → ¬ (G (p + 3) = 45 ∨ figN (G (p + 3)) ≤ 9) → ∀ I', SR3 I I' → I' 129 15 = nI (p + 3) → K 0 I' X)
    (e4 : ¬ (kindI (G p) = -9 ∨ m = 5) → figN (G (p + 1)) ≤ 9 → figN (G (p + 2)) ≤ 3 → (G (p + 3) = 45 ∨ figN (G (p + 3)) ≤ 9) → ∀ I', SR3 I I' → MDS I' (p + 4) (m + 1) w (hset hd m G p) wd → K 1 I' X) : CI g (d + 3) iX11_readsHouse [rf g 129, .int (nI t)] I X K := by
  have hz := h.2.2.1
  obtain ⟨m1, m2, m3, m4, m5⟩ := hd0
  refine en_X11_readsHouse (h.byte m1 (by omega) (fun u hu => c_X11_kindOf ?_))
  rw [hu.2.2.2.2, m2, m1]
  refine ⟨fun c => e0 (Or.inl c), fun c => ⟨fun c5 x7 e7 I8 e8 => ?_, fun c5 => e0 (Or.inr ?_)⟩⟩
  case refine_2 =>
    exact (nI_eqL 5 (by omega) (by decide)).mp c5
  have hm5 : m < 5 := by
    have : m ≠ 5 := fun e => c5 (by rw [e]; rfl)
    omega
  have hno : ¬ (kindI (G p) = -9 ∨ m = 5) := fun y => y.elim c (by omega)
  rw [show (4 : Int32) * nI m = nI (4 * m) by rw [show (4 : Int32) = nI 4 from rfl, pk_mul]] at e7
  subst e7
  rw [nI_1] at e8
  obtain ⟨k1, k2⟩ := kind_nI c
  refine ⟨vp_in_nI (by omega) (by decide), fun I10 e10 => ?_⟩
  rw [nI_clamp (by omega), k1] at e10
  -- the first figure
  have s10 : SR3 I I10 := fun b k hb => by rw [e10, set2_at, if_neg (by omega), e8, set2_at, if_neg (by omega)]
  have p10 : I10 129 15 = nI (p + 1) := by rw [e10, set2_at, if_neg (by omega), e8, set2_at, if_pos ⟨rfl, rfl⟩]
  have q10 : I10 140 (4 * m) = nI (kindI (G p)).toNatClampNeg := by rw [e10, set2_at, if_pos ⟨rfl, rfl⟩]
  have o10 : ∀ b k, ¬ (b = 129 ∧ k = 15) → ¬ (b = 140 ∧ k = 4 * m) → I10 b k = I b k := fun b k x1 x2 => by rw [e10, set2_at, if_neg x2, e8, set2_at, if_neg x1]
  clear e10 e8
  refine rg_X11_readsHouse_56 ⟨fun y => absurd y (by decide), fun _ => ?_⟩
  refine (h.same (fun b k hb => s10 b k (by omega))).fig p10 (by omega) (fun y1 => ?_) (fun y1 => ⟨fun _ => e1 hno y1 I10 s10 p10, fun y => absurd rfl y⟩)
  refine ⟨fun y => absurd y (m9_nI (by omega)), fun _ => ⟨fun _ => ?_, fun y => absurd y (by decide)⟩⟩
  rw [show nI (4 * m) + 1 = nI (4 * m + 1) from nI_add (4 * m) 1]
  refine ⟨vp_in_nI (by omega) (by decide), fun I25 e25 I26 e26 x27 e27 => ?_⟩
  rw [nI_clamp (by omega)] at e25
  have p25 : I25 129 15 = nI (p + 1) := by rw [e25, set2_at, if_neg (by omega)]; exact p10
  rw [p25, nI_1] at e26
  subst e27
  have s26 : SR3 I I26 := fun b k hb => by rw [e26, set2_at, if_neg (by omega), e25, set2_at, if_neg (by omega), s10 b k hb]
  have p26 : I26 129 15 = nI (p + 2) := by rw [e26, set2_at, if_pos ⟨rfl, rfl⟩]
  have q26 : I26 140 (4 * m + 1) = nI (figN (G (p + 1))) := by rw [e26, set2_at, if_neg (by omega), e25, set2_at, if_pos ⟨rfl, rfl⟩]
  have o26 : ∀ b k, ¬ (b = 129 ∧ k = 15) → ¬ (b = 140 ∧ k = 4 * m + 1) → I26 b k = I10 b k := fun b k x1 x2 => by rw [e26, set2_at, if_neg x1, e25, set2_at, if_neg x2]
  clear e26 e25 p25
  refine rg_X11_readsHouse_56 ⟨fun y => absurd y (by decide), fun _ => ?_⟩
  refine (h.same (fun b k hb => s26 b k (by omega))).fig p26 (by omega) (fun y2 => ?_) (fun y2 => ⟨fun _ => e2 hno y1 (by omega) I26 s26 p26, fun y => absurd rfl y⟩)
  refine ⟨fun y => absurd y (m9_nI (by omega)), fun _ => ⟨fun y => absurd rfl y, fun _ => ⟨fun y3 => ?_, fun y3 => e2 hno y1 (fun q => y3 (nI_le (b := 3) q (by decide))) I26 s26 p26⟩⟩⟩
  have y3' : figN (G (p + 2)) ≤ 3 := (nI_leI (b := 3) (by omega) (by decide)).mp y3
  rw [show nI (4 * m) + (1 + 1) = nI (4 * m + 2) from nI_add (4 * m) 2]
  refine ⟨vp_in_nI (by omega) (by decide), fun I29 e29 I30 e30 x31 e31 => ?_⟩
  rw [nI_clamp (by omega)] at e29
  have p29 : I29 129 15 = nI (p + 2) := by rw [e29, set2_at, if_neg (by omega)]; exact p26
  rw [p29, nI_1] at e30
  subst e31
  have s30 : SR3 I I30 := fun b k hb => by rw [e30, set2_at, if_neg (by omega), e29, set2_at, if_neg (by omega), s26 b k hb]
  have p30 : I30 129 15 = nI (p + 3) := by rw [e30, set2_at, if_pos ⟨rfl, rfl⟩]
  have q30 : I30 140 (4 * m + 2) = nI (figN (G (p + 2))) := by rw [e30, set2_at, if_neg (by omega), e29, set2_at, if_pos ⟨rfl, rfl⟩]
  have o30 : ∀ b k, ¬ (b = 129 ∧ k = 15) → ¬ (b = 140 ∧ k = 4 * m + 2) → I30 b k = I26 b k := fun b k x1 x2 => by rw [e30, set2_at, if_neg x1, e29, set2_at, if_neg x2]
  clear e30 e29 p29
  have h30 : TM I30 t z G := h.same (fun b k hb => s30 b k (by omega))
  -- the need
  have fin : ∀ v : Int32, v = ndI (if G (p + 3) = 45 then 99 else figN (G (p + 3))) → (G (p + 3) = 45 ∨ figN (G (p + 3)) ≤ 9) → vp_in (nI (4 * m) + 3) 20 ∧ ∀ I8 : IT, I8 = set2 I30 140 (nI (4 * m) + 3).toNatClampNeg v → ∀ I9 : IT, I9 = set2 I8 129 15 ((I8 129 15) + 1) → ∀ I10 : IT, I10 = set2 I9 129 16 ((I9 129 16) + 1) → K 1 I10 X := by
    intro v hv y4
    rw [show nI (4 * m) + 3 = nI (4 * m + 3) from nI_add (4 * m) 3]
    refine ⟨vp_in_nI (by omega) (by decide), fun I8 e8 I9 e9 IA eA => ?_⟩
    rw [nI_clamp (by omega)] at e8
    have p8 : I8 129 15 = nI (p + 3) := by rw [e8, set2_at, if_neg (by omega)]; exact p30
    rw [p8, nI_1] at e9
    have p9 : I9 129 16 = nI m := by rw [e9, set2_at, if_neg (by omega), e8, set2_at, if_neg (by omega), o30 _ _ (by omega) (by omega), o26 _ _ (by omega) (by omega), o10 _ _ (by omega) (by omega)]; exact m2
    rw [p9, nI_1] at eA
    have atA : ∀ b k, IA b k = if b = 129 ∧ k = 16 then nI (m + 1) else if b = 129 ∧ k = 15 then nI (p + 4) else if b = 140 ∧ k = 4 * m + 3 then v else I30 b k := fun b k => by rw [eA, set2_at, e9, set2_at, e8, set2_at]
    refine e4 hno y1 y3' y4 IA (fun b k hb => ?_) ⟨?_, ?_, ?_, fun k hk => ?_, fun k hk => ?_⟩
    · rw [atA, if_neg (by omega), if_neg (by omega), if_neg (by omega), s30 b k hb]
    · rw [atA, if_neg (by omega), if_pos ⟨rfl, rfl⟩]
    · rw [atA, if_pos ⟨rfl, rfl⟩]
    · rw [atA, if_neg (by omega), if_neg (by omega), if_neg (by omega), o30 _ _ (by omega) (by omega), o26 _ _ (by omega) (by omega), o10 _ _ (by omega) (by omega)]; exact m3
    · rw [atA, if_neg (by omega), if_neg (by omega)]
      by_cases c3 : k = 4 * m + 3
      · rw [if_pos ⟨rfl, c3⟩, c3, hset_3, hv]
      rw [if_neg (by omega)]
      by_cases c2 : k = 4 * m + 2
      · rw [c2, q30, hset_2]; exact ndI_nI (by omega)
      rw [o30 _ _ (by omega) (by omega)]
      by_cases c1 : k = 4 * m + 1
      · rw [c1, q26, hset_1]; exact ndI_nI (by omega)
      rw [o26 _ _ (by omega) (by omega)]
      by_cases c0 : k = 4 * m
      · rw [c0, q10, hset_0]; exact ndI_nI (by omega)
      rw [o10 _ _ (by omega) (by omega), m4 k (by omega)]
      unfold hset
      rw [mW_at, mW_at, mW_at, mW_at, if_neg c3, if_neg c2, if_neg c1, if_neg c0]
    · rw [atA, if_neg (by omega), if_neg (by omega), if_neg (by omega), o30 _ _ (by omega) (by omega), o26 _ _ (by omega) (by omega), o10 _ _ (by omega) (by omega)]; exact m5 k hk
  refine rg_X11_readsHouse_56 ⟨fun _ => ?_, fun y => absurd (by decide) y⟩
  refine h30.byte p30 (by omega) (fun u hu => ⟨fun c45 => ?_, fun c45 => ?_⟩)
  · have g45 := hu.2.2.1.mp c45
    have f45 : ¬ figN (G (p + 3)) ≤ 9 := by rw [g45]; decide
    exact h30.fig p30 (by omega) (fun y => absurd y f45) (fun _ => fin (-9) (by rw [if_pos g45]; rfl) (Or.inl g45))
  · have g45 : ¬ G (p + 3) = 45 := fun y => c45 (hu.2.2.1.mpr y)
    refine h30.fig p30 (by omega) (fun y4 => ⟨fun _ => h30.fig p30 (by omega) (fun _ => fin _ (by rw [if_neg g45]; exact ndI_nI y4) (Or.inr y4)) (fun y => absurd y4 y), fun y => absurd y (m9_nI (by omega))⟩) (fun y4 => ⟨fun y => absurd rfl y, fun _ => e3 hno y1 y3' (fun y => y.elim g45 y4) I30 s30 p30⟩)
end T86
