/-! ===== the reader: what a text says ===== -/
def figN (v : Int32) : Nat := if 48 ≤ v.toInt ∧ v.toInt ≤ 57 then (v.toInt - 48).toNat else 10
def kindI (v : Int32) : Int32 := if v = 100 then 3 else if v = 101 then -9 else if v = 102 then -9 else if v = 103 then -9 else if v = 104 then 0 else if v = 105 then 5 else if v = 106 then -9 else if v = 107 then -9 else if v = 108 then -9 else if v = 109 then -9 else if v = 110 then -9 else if v = 111 then -9 else if v = 112 then 1 else if v = 113 then -9 else if v = 114 then -9 else if v = 115 then 2 else if v = 116 then 4 else -9
def hset (hd : Nat → Nat) (m : Nat) (G : Nat → Int32) (p : Nat) : Nat → Nat := mW (mW (mW (mW hd (4 * m) (kindI (G p)).toNatClampNeg) (4 * m + 1) (figN (G (p + 1)))) (4 * m + 2) (figN (G (p + 2)))) (4 * m + 3) (if G (p + 3) = 45 then 99 else figN (G (p + 3)))
/-- fault (99: none), houses, winds, what the houses say (4 each), what the winds say -/
abbrev RD := Nat × Nat × Nat × (Nat → Nat) × (Nat → Nat)
def houR (G : Nat → Int32) (z w : Nat) (wd : Nat → Nat) : Nat → Nat → Nat → (Nat → Nat) → RD
  | 0, p, m, hd => (p, m, w, hd, wd)
  | q + 1, p, m, hd =>
    if z ≤ p then (if m = 0 then z else 99, m, w, hd, wd)
    else if G p = 32 then houR G z w wd q (p + 1) m hd
    else if kindI (G p) = -9 ∨ m = 5 then (p, m, w, hd, wd)
    else if ¬ figN (G (p + 1)) ≤ 9 then (p + 1, m, w, hd, wd)
    else if ¬ figN (G (p + 2)) ≤ 3 then (p + 2, m, w, hd, wd)
    else if ¬ (G (p + 3) = 45 ∨ figN (G (p + 3)) ≤ 9) then (p + 3, m, w, hd, wd)
    else houR G z w wd q (p + 4) (m + 1) (hset hd m G p)
def wndR (G : Nat → Int32) (z : Nat) (hd : Nat → Nat) : Nat → Nat → Nat → (Nat → Nat) → RD
  | 0, p, w, wd => (p, 0, w, hd, wd)
  | q + 1, p, w, wd => if figN (G p) ≤ 2 ∧ w < 6 then wndR G z hd q (p + 1) (w + 1) (mW wd w (figN (G p))) else if w = 0 then (p, 0, w, hd, wd) else houR G z w wd 61 p 0 hd
def sttR (G : Nat → Int32) (z : Nat) (hd wd : Nat → Nat) : Nat → Nat → RD
  | 0, p => (p, 0, 0, hd, wd)
  | q + 1, p => if z ≤ p then (z, 0, 0, hd, wd) else if G p = 32 then sttR G z hd wd q (p + 1) else if G p = 118 then wndR G z hd 7 (p + 1) 0 wd else (p, 0, 0, hd, wd)
def z0 : Nat → Nat := fun _ => 0
section T83
variable {g : OG} {d : Nat} {I : IT} {X : XT} {K : Int32 → IT → XT → Prop} {KV : IT → XT → Prop}
variable {z w m p t : Nat} {G : Nat → Int32} {hd wd : Nat → Nat}
theorem chn {P : Prop} [Decidable P] {a b : Int32} {R : Prop} (hR : K b I X → R) (h : K (if P then a else b) I X) : (P → K a I X) ∧ (¬ P → R) :=
  ⟨fun c => by rw [if_pos c] at h; exact h, fun c => hR (by rw [if_neg c] at h; exact h)⟩
theorem c_X2_byLetter {v : Int32} (hK : K (kindI v) I X) : CI g (d + 1) iX2_byLetter [.int v] I X K :=
  en_X2_byLetter (chn (chn (chn (chn (chn (chn (chn (chn (chn (chn (chn (chn (chn (chn (chn (chn (chn id)))))))))))))))) hK)
theorem c_X11_kindOf {v : Int32} (hK : K (kindI v) I X) : CI g (d + 1) iX11_kindOf [.int v] I X K :=
  en_X11_kindOf (chn (chn (chn (chn (chn (chn (chn (chn (chn (chn (chn (chn (chn (chn (chn (chn (chn id)))))))))))))))) hK)
def KQ (x : Int32) : Prop := x = -9 ∨ ∃ c, c ≤ 5 ∧ x = nI c
theorem kq_ite {P : Prop} [Decidable P] {a b : Int32} (ha : KQ a) (hb : KQ b) : KQ (if P then a else b) := by
  by_cases c : P
  · rw [if_pos c]; exact ha
  · rw [if_neg c]; exact hb
theorem kind_is (v : Int32) : kindI v = -9 ∨ ∃ c, c ≤ 5 ∧ kindI v = nI c :=
  show KQ (kindI v) from (kq_ite (Or.inr ⟨3, by decide, rfl⟩) (kq_ite (Or.inl rfl) (kq_ite (Or.inl rfl) (kq_ite (Or.inl rfl) (kq_ite (Or.inr ⟨0, by decide, rfl⟩) (kq_ite (Or.inr ⟨5, by decide, rfl⟩) (kq_ite (Or.inl rfl) (kq_ite (Or.inl rfl) (kq_ite (Or.inl rfl) (kq_ite (Or.inl rfl) (kq_ite (Or.inl rfl) (kq_ite (Or.inl rfl) (kq_ite (Or.inr ⟨1, by decide, rfl⟩) (kq_ite (Or.inl rfl) (kq_ite (Or.inl rfl) (kq_ite (Or.inr ⟨2, by decide, rfl⟩) (kq_ite (Or.inr ⟨4, by decide, rfl⟩) (Or.inl rfl))))))))))))))))))
theorem fig_of {v : Int32} (h : figN v ≤ 9) : v = nI (48 + figN v) := by
  unfold figN at h ⊢
  by_cases c : 48 ≤ v.toInt ∧ v.toInt ≤ 57
  · rw [if_pos c] at h ⊢
    refine Int32.toInt_inj.mp ?_
    rw [nI_toInt (by omega)]
    omega
  · rw [if_neg c] at h
    omega
theorem fig_nI {u : Nat} (h : u ≤ 9) : figN (nI (48 + u)) = u := by
  unfold figN
  rw [nI_toInt (by omega), if_pos (by omega)]
  omega
theorem fig_sub {v : Int32} (h : figN v ≤ 9) : v - 48 = nI (figN v) := by
  rw [show v - 48 = nI (48 + figN v) - nI 48 by rw [← fig_of h]; rfl, pk_sub (by omega)]
  congr 1
  omega
theorem fig_in {v : Int32} : (0 ≤ v - 48 ∧ v - 48 ≤ 9) ↔ figN v ≤ 9 := by
  constructor
  · intro h
    obtain ⟨u, hu, e⟩ := vp_in_of ((inB (n := 9) (by decide)).mp h) (by decide)
    have e2 : v = nI (48 + u) := by
      have : v = (v - 48) + 48 := (Int32.sub_add_cancel v 48).symm
      rw [this, e, show (48 : Int32) = nI 48 from rfl, nI_add, Nat.add_comm]
    rw [e2, fig_nI (by omega)]
    omega
  · intro h
    rw [fig_sub h]
    exact (inB (n := 9) (by decide)).mpr (vp_in_nI (by omega) (by decide))
theorem c_X6_isFigure {v : Int32} {hi : Nat} (hh : hi ≤ 9) (hT : figN v ≤ hi → K 1 I X) (hF : ¬ figN v ≤ hi → K 0 I X) : CI g (d + 1) iX6_isFigure [.int v, .int (nI hi)] I X K := by
  have e : (48 : Int32) + nI hi = nI (48 + hi) := nI_add 48 hi
  refine en_X6_isFigure ?_
  rw [e, Int32.lt_iff_toInt_lt, Int32.lt_iff_toInt_lt, nI_toInt (by omega), show (48 : Int32).toInt = 48 from rfl]
  refine ⟨fun c => hF (fun y => ?_), fun c => ⟨fun c2 => hF (fun y => ?_), fun c2 => hT ?_⟩⟩
  · unfold figN at y
    rw [if_neg (by omega)] at y
    omega
  · unfold figN at y
    by_cases q : 48 ≤ v.toInt ∧ v.toInt ≤ 57
    · rw [if_pos q] at y
      omega
    · rw [if_neg q] at y
      omega
  · unfold figN
    rw [if_pos (by omega)]
    omega
theorem kind_fig {v : Int32} (h : figN v ≤ 9) : kindI v = -9 := by
  rw [fig_of h]
  have : ∀ u, u ≤ 9 → kindI (nI (48 + u)) = -9 := by decide
  exact this _ h
theorem kind_1000 : kindI 1000 = -9 := by decide
theorem fig_1000 : figN 1000 = 10 := by decide
-- the class's text
def TX (I : IT) (t z : Nat) (G : Nat → Int32) : Prop := t < 4 ∧ I (textA t) 1 = nI z ∧ z ≤ 60 ∧ (∀ k, k < z → I (textA t + 1) k = G k) ∧ ∀ k, z ≤ k → G k = 1000
theorem TX.same {I' : IT} (h : TX I t z G) (hs : ∀ b k, 16 ≤ b ∧ b ≤ 23 → I' b k = I b k) : TX I' t z G := by
  obtain ⟨h1, h2, h3, h4, h5⟩ := h
  refine ⟨h1, by rw [hs _ 1 (by unfold textA; omega)]; exact h2, h3, fun k hk => by rw [hs _ k (by unfold textA; omega)]; exact h4 k hk, h5⟩
theorem TX.get (h : TX I t z G) (hp : p < 2 ^ 30) (hK : K (G p) I X) : CI g (d + 2) iX9_get [rf g (textA t), .int (nI p)] I X K := by
  refine c_X9_get (textA_mem h.1) h.2.1 h.2.2.1 (fun q => ?_) (fun q => ?_)
  · have hpz : p < z := by
      obtain ⟨j, hj, e⟩ := vp_in_of q (by have := h.2.2.1; omega)
      have := (nI_eq (by omega) (by have := h.2.2.1; omega)).mp e
      omega
    rw [nI_clamp (by omega), h.2.2.2.1 p hpz]
    exact hK
  · have hpz : z ≤ p := by
      refine Nat.not_lt.mp (fun c => q (vp_in_nI c (by have := h.2.2.1; omega)))
    rw [h.2.2.2.2 p hpz] at hK
    exact hK
theorem TX.has (h : TX I t z G) (hp : p < 2 ^ 30) (hT : p < z → K 1 I X) (hF : z ≤ p → K 0 I X) : CI g (d + 1) iX9_has [rf g (textA t), .int (nI p)] I X K := by
  refine c_X9_has (textA_mem h.1) h.2.1 h.2.2.1 (fun q => hT ?_) (fun q => hF ?_)
  · obtain ⟨j, hj, e⟩ := vp_in_of q (by have := h.2.2.1; omega)
    have := (nI_eq (by omega) (by have := h.2.2.1; omega)).mp e
    omega
  · exact Nat.not_lt.mp (fun c => q (vp_in_nI c (by have := h.2.2.1; omega)))
theorem lp_skip (h : TX I t z G) : ∀ (q p : Nat), p + q = z → (∀ p', p ≤ p' → p' ≤ z → (∀ k, p ≤ k → k < p' → G k = 32) → ¬ G p' = 32 → K (nI p') I X) → SR g (d + 3) iX6_skipBlanks 2 [(0, rf g (textA t)), (2, .int (nI p))] I X (qI K) := by
  have hz := h.2.2.1
  intro q
  induction q with
  | zero =>
    intro p hp hK
    obtain rfl : p = z := by omega
    refine rg_X6_skipBlanks_2 (textA_mem h.1) ?_
    rw [h.2.1]
    exact ⟨fun _ => hK p (Nat.le_refl _) (Nat.le_refl _) (fun k h1 h2 => by omega) (by rw [h.2.2.2.2 p (Nat.le_refl _)]; decide), fun c => absurd (Int32.le_refl _) c⟩
  | succ q ih =>
    intro p hp hK
    refine rg_X6_skipBlanks_2 (textA_mem h.1) ?_
    rw [h.2.1]
    refine ⟨fun c => absurd c (nI_ge (by omega) (by omega)), fun _ => h.get (by omega) ⟨fun c => hK p (Nat.le_refl _) (by omega) (fun k h1 h2 => by omega) c, fun c x4 e4 => ?_⟩⟩
    subst e4
    rw [nI_1]
    refine ih (p + 1) (by omega) (fun p' h1 h2 h3 h4 => hK p' (by omega) h2 (fun k k1 k2 => ?_) h4)
    by_cases e : k = p
    · subst e; exact c
    · exact h3 k (by omega) k2
theorem c_skip (h : TX I t z G) (hp : p ≤ z) (hK : ∀ p', p ≤ p' → p' ≤ z → (∀ k, p ≤ k → k < p' → G k = 32) → ¬ G p' = 32 → K (nI p') I X) : CI g (d + 3) iX6_skipBlanks [rf g (textA t), .int (nI p)] I X K :=
  en_X6_skipBlanks (textA_mem h.1) (lp_skip h (z - p) p (by omega) hK)
theorem hou_skip {p' : Nat} (hp' : p' ≤ z) : ∀ (r p q : Nat), p + r = p' → z + 1 ≤ p + q → (∀ k, p ≤ k → k < p' → G k = 32) → ∃ q', z + 1 ≤ p' + q' ∧ houR G z w wd q p m hd = houR G z w wd q' p' m hd := by
  intro r
  induction r with
  | zero =>
    intro p q hp hq _
    obtain rfl : p = p' := by omega
    exact ⟨q, hq, rfl⟩
  | succ r ih =>
    intro p q hp hq hk
    obtain ⟨q2, rfl⟩ : ∃ q2, q = q2 + 1 := ⟨q - 1, by omega⟩
    obtain ⟨q', h1, h2⟩ := ih (p + 1) q2 (by omega) (by omega) (fun k k1 k2 => hk k (by omega) k2)
    refine ⟨q', h1, ?_⟩
    rw [← h2]
    show (if z ≤ p then _ else _) = _
    rw [if_neg (by omega), if_pos (hk p (Nat.le_refl _) (by omega))]
theorem stt_skip {p' : Nat} (hp' : p' ≤ z) : ∀ (r p q : Nat), p + r = p' → z + 1 ≤ p + q → (∀ k, p ≤ k → k < p' → G k = 32) → ∃ q', z + 1 ≤ p' + q' ∧ sttR G z hd wd q p = sttR G z hd wd q' p' := by
  intro r
  induction r with
  | zero =>
    intro p q hp hq _
    obtain rfl : p = p' := by omega
    exact ⟨q, hq, rfl⟩
  | succ r ih =>
    intro p q hp hq hk
    obtain ⟨q2, rfl⟩ : ∃ q2, q = q2 + 1 := ⟨q - 1, by omega⟩
    obtain ⟨q', h1, h2⟩ := ih (p + 1) q2 (by omega) (by omega) (fun k k1 k2 => hk k (by omega) k2)
    refine ⟨q', h1, ?_⟩
    rw [← h2]
    show (if z ≤ p then _ else _) = _
    rw [if_neg (by omega), if_pos (hk p (Nat.le_refl _) (by omega))]
end T83
